set_option maxHeartbeats 4000000 in
set_option maxRecDepth 100000 in
theorem wnX12_euler (Q Q' : Int32 → XT → Prop) (hQ : (∀ (r : Int32) (t : XT), Q r t → Q' r t)) : ∀ k k' : Nat, k ≤ k' → (∀ (t : XT) (li : Nat → Int32) (lj : Nat → Int64), wpX12_euler k 0 t li lj Q → wpX12_euler k' 0 t li lj Q') ∧ (∀ (t : XT) (li : Nat → Int32) (lj : Nat → Int64), wpX12_euler k 1 t li lj Q → wpX12_euler k' 1 t li lj Q') ∧ (∀ (t : XT) (li : Nat → Int32) (lj : Nat → Int64), wpX12_euler k 2 t li lj Q → wpX12_euler k' 2 t li lj Q') := by
  intro k
  induction k with
  | zero => intro k' _; exact ⟨fun _ _ _ hR => False.elim hR, fun _ _ _ hR => False.elim hR, fun _ _ _ hR => False.elim hR⟩
  | succ k ih =>
    intro k' hk
    cases k' with
    | zero => exact absurd hk (Nat.not_succ_le_zero k)
    | succ k' =>
      have hk := Nat.le_of_succ_le_succ hk
      have ihk := ih k' hk
      refine ⟨?_, ?_, ?_⟩
      · intro t li lj hR
        have hR : wbX12_euler_0 (wpX12_euler k) k t li lj Q := hR
        show wbX12_euler_0 (wpX12_euler k') k' t li lj Q'
        unfold wbX12_euler_0 at hR ⊢
        exact ihk.2.1 _ _ _ hR
      · intro t li lj hR
        have hR : wbX12_euler_1 (wpX12_euler k) k t li lj Q := hR
        show wbX12_euler_1 (wpX12_euler k') k' t li lj Q'
        unfold wbX12_euler_1 at hR ⊢
        exact ⟨fun c2 => hQ _ _ (hR.1 c2), fun c2 => wmX12_isThere hk (fun y3_0 y3_1 h3 => ⟨fun c1 => ihk.2.2 _ _ _ (h3.1 c1), fun c1 => wmX12_alternating hk (fun y4_0 y4_1 h4 => ihk.2.2 _ _ _ h4) (h3.2 c1)⟩) (hR.2 c2)⟩
      · intro t li lj hR
        have hR : wbX12_euler_2 (wpX12_euler k) k t li lj Q := hR
        show wbX12_euler_2 (wpX12_euler k') k' t li lj Q'
        unfold wbX12_euler_2 at hR ⊢
        exact fun x5 e5 => fun x6 e6 => ihk.2.1 _ _ _ ((hR x5 e5) x6 e6)
theorem wmX12_euler {k k' : Nat} {t : XT}  {Q Q' : Int32 → XT → Prop} (hk : k ≤ k') (hQ : (∀ (r : Int32) (t : XT), Q r t → Q' r t)) (hR : wqX12_euler k t  Q) : wqX12_euler k' t  Q' := (wnX12_euler Q Q' hQ k k' hk).1 _ _ _ hR
set_option maxHeartbeats 4000000 in
set_option maxRecDepth 100000 in
theorem wnX12_partsMany (Q Q' : Int32 → XT → Prop) (hQ : (∀ (r : Int32) (t : XT), Q r t → Q' r t)) : ∀ k k' : Nat, k ≤ k' → (∀ (t : XT) (li : Nat → Int32) (lj : Nat → Int64), wpX12_partsMany k 0 t li lj Q → wpX12_partsMany k' 0 t li lj Q') ∧ (∀ (t : XT) (li : Nat → Int32) (lj : Nat → Int64), wpX12_partsMany k 1 t li lj Q → wpX12_partsMany k' 1 t li lj Q') ∧ (∀ (t : XT) (li : Nat → Int32) (lj : Nat → Int64), wpX12_partsMany k 2 t li lj Q → wpX12_partsMany k' 2 t li lj Q') ∧ (∀ (t : XT) (li : Nat → Int32) (lj : Nat → Int64), wpX12_partsMany k 3 t li lj Q → wpX12_partsMany k' 3 t li lj Q') ∧ (∀ (t : XT) (li : Nat → Int32) (lj : Nat → Int64), wpX12_partsMany k 4 t li lj Q → wpX12_partsMany k' 4 t li lj Q') ∧ (∀ (t : XT) (li : Nat → Int32) (lj : Nat → Int64), wpX12_partsMany k 5 t li lj Q → wpX12_partsMany k' 5 t li lj Q') ∧ (∀ (t : XT) (li : Nat → Int32) (lj : Nat → Int64), wpX12_partsMany k 6 t li lj Q → wpX12_partsMany k' 6 t li lj Q') ∧ (∀ (t : XT) (li : Nat → Int32) (lj : Nat → Int64), wpX12_partsMany k 7 t li lj Q → wpX12_partsMany k' 7 t li lj Q') ∧ (∀ (t : XT) (li : Nat → Int32) (lj : Nat → Int64), wpX12_partsMany k 8 t li lj Q → wpX12_partsMany k' 8 t li lj Q') := by
  intro k
  induction k with
  | zero => intro k' _; exact ⟨fun _ _ _ hR => False.elim hR, fun _ _ _ hR => False.elim hR, fun _ _ _ hR => False.elim hR, fun _ _ _ hR => False.elim hR, fun _ _ _ hR => False.elim hR, fun _ _ _ hR => False.elim hR, fun _ _ _ hR => False.elim hR, fun _ _ _ hR => False.elim hR, fun _ _ _ hR => False.elim hR⟩
  | succ k ih =>
    intro k' hk
    cases k' with
    | zero => exact absurd hk (Nat.not_succ_le_zero k)
    | succ k' =>
      have hk := Nat.le_of_succ_le_succ hk
      have ihk := ih k' hk
      refine ⟨?_, ?_, ?_, ?_, ?_, ?_, ?_, ?_, ?_⟩
      · intro t li lj hR
        have hR : wbX12_partsMany_0 (wpX12_partsMany k) k t li lj Q := hR
        show wbX12_partsMany_0 (wpX12_partsMany k') k' t li lj Q'
        unfold wbX12_partsMany_0 at hR ⊢
        exact ihk.2.1 _ _ _ hR
      · intro t li lj hR
        have hR : wbX12_partsMany_1 (wpX12_partsMany k) k t li lj Q := hR
        show wbX12_partsMany_1 (wpX12_partsMany k') k' t li lj Q'
        unfold wbX12_partsMany_1 at hR ⊢
        exact ⟨fun c1 => ihk.2.2.1 _ _ _ (hR.1 c1), fun c1 => ⟨(hR.2 c1).1, fun x10 e10 => fun x11 e11 => ihk.2.1 _ _ _ (((hR.2 c1).2 x10 e10) x11 e11)⟩⟩
      · intro t li lj hR
        have hR : wbX12_partsMany_2 (wpX12_partsMany k) k t li lj Q := hR
        show wbX12_partsMany_2 (wpX12_partsMany k') k' t li lj Q'
        unfold wbX12_partsMany_2 at hR ⊢
        exact ⟨fun c2 => ihk.2.2.2.2.2.2.1 _ _ _ (hR.1 c2), fun c2 => ihk.2.2.2.1 _ _ _ (hR.2 c2)⟩
      · intro t li lj hR
        have hR : wbX12_partsMany_3 (wpX12_partsMany k) k t li lj Q := hR
        show wbX12_partsMany_3 (wpX12_partsMany k') k' t li lj Q'
        unfold wbX12_partsMany_3 at hR ⊢
        exact ⟨fun c3 => ihk.2.2.1 _ _ _ (hR.1 c3), fun c3 => ihk.2.2.2.2.1 _ _ _ (hR.2 c3)⟩
      · intro t li lj hR
        have hR : wbX12_partsMany_4 (wpX12_partsMany k) k t li lj Q := hR
        show wbX12_partsMany_4 (wpX12_partsMany k') k' t li lj Q'
        unfold wbX12_partsMany_4 at hR ⊢
        exact ⟨fun c6 => fun x12 e12 => ihk.2.2.2.1 _ _ _ ((hR.1 c6) x12 e12), fun c6 => wmX12_isFaceThere hk (fun y13_0 y13_1 h13 => ⟨fun c5 => ihk.2.2.2.2.2.1 _ _ _ (h13.1 c5), fun c5 => ⟨(h13.2 c5).1, fun x14 e14 => ⟨((h13.2 c5).2 x14 e14).1, fun x15 e15 => ⟨fun c4 => ihk.2.2.2.2.2.1 _ _ _ ((((h13.2 c5).2 x14 e14).2 x15 e15).1 c4), fun c4 => ⟨((((h13.2 c5).2 x14 e14).2 x15 e15).2 c4).1, fun x16 e16 => ⟨(((((h13.2 c5).2 x14 e14).2 x15 e15).2 c4).2 x16 e16).1, fun x17 e17 => fun x18 e18 => ⟨(((((((h13.2 c5).2 x14 e14).2 x15 e15).2 c4).2 x16 e16).2 x17 e17) x18 e18).1, fun x19 e19 => ⟨((((((((h13.2 c5).2 x14 e14).2 x15 e15).2 c4).2 x16 e16).2 x17 e17) x18 e18).2 x19 e19).1, fun x20 e20 => ihk.2.2.2.2.2.1 _ _ _ (((((((((h13.2 c5).2 x14 e14).2 x15 e15).2 c4).2 x16 e16).2 x17 e17) x18 e18).2 x19 e19).2 x20 e20)⟩⟩⟩⟩⟩⟩⟩⟩) (hR.2 c6)⟩
      · intro t li lj hR
        have hR : wbX12_partsMany_5 (wpX12_partsMany k) k t li lj Q := hR
        show wbX12_partsMany_5 (wpX12_partsMany k') k' t li lj Q'
        unfold wbX12_partsMany_5 at hR ⊢
        exact fun x21 e21 => ihk.2.2.2.2.1 _ _ _ (hR x21 e21)
      · intro t li lj hR
        have hR : wbX12_partsMany_6 (wpX12_partsMany k) k t li lj Q := hR
        show wbX12_partsMany_6 (wpX12_partsMany k') k' t li lj Q'
        unfold wbX12_partsMany_6 at hR ⊢
        exact ⟨fun c9 => hQ _ _ (hR.1 c9), fun c9 => wmX12_isThere hk (fun y22_0 y22_1 h22 => ⟨fun c8 => ihk.2.2.2.2.2.2.2.1 _ _ _ (h22.1 c8), fun c8 => ⟨(h22.2 c8).1, fun x23 e23 => ⟨fun c7 => ihk.2.2.2.2.2.2.2.1 _ _ _ (((h22.2 c8).2 x23 e23).1 c7), fun c7 => ihk.2.2.2.2.2.2.2.2 _ _ _ (((h22.2 c8).2 x23 e23).2 c7)⟩⟩⟩) (hR.2 c9)⟩
      · intro t li lj hR
        have hR : wbX12_partsMany_7 (wpX12_partsMany k) k t li lj Q := hR
        show wbX12_partsMany_7 (wpX12_partsMany k') k' t li lj Q'
        unfold wbX12_partsMany_7 at hR ⊢
        exact ihk.2.2.2.2.2.2.2.2 _ _ _ hR
      · intro t li lj hR
        have hR : wbX12_partsMany_8 (wpX12_partsMany k) k t li lj Q := hR
        show wbX12_partsMany_8 (wpX12_partsMany k') k' t li lj Q'
        unfold wbX12_partsMany_8 at hR ⊢
        exact wmX12_truth hk (fun y24_0 h24 => fun x25 e25 => fun x26 e26 => ihk.2.2.2.2.2.2.1 _ _ _ ((h24 x25 e25) x26 e26)) hR
theorem wmX12_partsMany {k k' : Nat} {t : XT}  {Q Q' : Int32 → XT → Prop} (hk : k ≤ k') (hQ : (∀ (r : Int32) (t : XT), Q r t → Q' r t)) (hR : wqX12_partsMany k t  Q) : wqX12_partsMany k' t  Q' := (wnX12_partsMany Q Q' hQ k k' hk).1 _ _ _ hR
set_option maxHeartbeats 4000000 in
set_option maxRecDepth 100000 in
theorem wnX12_count (Q Q' : Int32 → XT → Prop) (hQ : (∀ (r : Int32) (t : XT), Q r t → Q' r t)) : ∀ k k' : Nat, k ≤ k' → (∀ (t : XT) (li : Nat → Int32) (lj : Nat → Int64), wpX12_count k 0 t li lj Q → wpX12_count k' 0 t li lj Q') := by
  intro k
  induction k with
  | zero => intro k' _; exact fun _ _ _ hR => False.elim hR
  | succ k ih =>
    intro k' hk
    cases k' with
    | zero => exact absurd hk (Nat.not_succ_le_zero k)
    | succ k' =>
      have hk := Nat.le_of_succ_le_succ hk
      have ihk := ih k' hk
      intro t li lj hR
      have hR : wbX12_count_0 (wpX12_count k) k t li lj Q := hR
      show wbX12_count_0 (wpX12_count k') k' t li lj Q'
      unfold wbX12_count_0 at hR ⊢
      exact ⟨fun c1 => hQ _ _ (hR.1 c1), fun c1 => hQ _ _ (hR.2.1 c1), fun c1 => wmX12_thereMany hk (fun y2_0 y2_1 h2 => hQ _ _ h2) (hR.2.2.1 c1), fun c1 => wmX12_greatestDim hk (fun y3_0 y3_1 h3 => hQ _ _ h3) (hR.2.2.2.1 c1), fun c1 => wmX12_pairMany hk (fun y4_0 y4_1 h4 => hQ _ _ h4) (hR.2.2.2.2.1 c1), fun c1 => wmX12_criticalMany hk (fun y5_0 y5_1 h5 => hQ _ _ h5) (hR.2.2.2.2.2.1 c1), fun c1 => wmX12_euler hk (fun y6_0 y6_1 h6 => hQ _ _ h6) (hR.2.2.2.2.2.2.1 c1), fun c1 => wmX12_partsMany hk (fun y7_0 y7_1 h7 => hQ _ _ h7) (hR.2.2.2.2.2.2.2.1 c1), fun c1 => hQ _ _ (hR.2.2.2.2.2.2.2.2.1 c1), fun c1 => hQ _ _ (hR.2.2.2.2.2.2.2.2.2.1 c1), fun c1 => hQ _ _ (hR.2.2.2.2.2.2.2.2.2.2 c1)⟩
theorem wmX12_count {k k' : Nat} {t : XT} {a1 : Int32} {Q Q' : Int32 → XT → Prop} (hk : k ≤ k') (hQ : (∀ (r : Int32) (t : XT), Q r t → Q' r t)) (hR : wqX12_count k t a1 Q) : wqX12_count k' t a1 Q' := (wnX12_count Q Q' hQ k k' hk) _ _ _ hR
set_option maxHeartbeats 4000000 in
set_option maxRecDepth 100000 in
theorem wnX10_append (Q Q' : XT → Prop) (hQ : (∀ (t : XT), Q t → Q' t)) : ∀ k k' : Nat, k ≤ k' → (∀ (t : XT) (li : Nat → Int32) (lj : Nat → Int64), wpX10_append k 0 t li lj Q → wpX10_append k' 0 t li lj Q') ∧ (∀ (t : XT) (li : Nat → Int32) (lj : Nat → Int64), wpX10_append k 1 t li lj Q → wpX10_append k' 1 t li lj Q') := by
  intro k
  induction k with
  | zero => intro k' _; exact ⟨fun _ _ _ hR => False.elim hR, fun _ _ _ hR => False.elim hR⟩
  | succ k ih =>
    intro k' hk
    cases k' with
    | zero => exact absurd hk (Nat.not_succ_le_zero k)
    | succ k' =>
      have hk := Nat.le_of_succ_le_succ hk
      have ihk := ih k' hk
      refine ⟨?_, ?_⟩
      · intro t li lj hR
        have hR : wbX10_append_0 (wpX10_append k) k t li lj Q := hR
        show wbX10_append_0 (wpX10_append k') k' t li lj Q'
        unfold wbX10_append_0 at hR ⊢
        exact ihk.2 _ _ _ hR
      · intro t li lj hR
        have hR : wbX10_append_1 (wpX10_append k) k t li lj Q := hR
        show wbX10_append_1 (wpX10_append k') k' t li lj Q'
        unfold wbX10_append_1 at hR ⊢
        exact ⟨fun c2 => hQ _ (hR.1 c2), fun c2 => ⟨fun c1 => hQ _ ((hR.2 c2).1 c1), fun c1 => fun x3 e3 => fun x4 e4 => ⟨((((hR.2 c2).2 c1) x3 e3) x4 e4).1, fun x5 e5 => fun x6 e6 => fun x7 e7 => fun x8 e8 => ihk.2 _ _ _ ((((((((hR.2 c2).2 c1) x3 e3) x4 e4).2 x5 e5) x6 e6) x7 e7) x8 e8)⟩⟩⟩
theorem wmX10_append {k k' : Nat} {t : XT} {a1 : Int32} {Q Q' : XT → Prop} (hk : k ≤ k') (hQ : (∀ (t : XT), Q t → Q' t)) (hR : wqX10_append k t a1 Q) : wqX10_append k' t a1 Q' := (wnX10_append Q Q' hQ k k' hk).1 _ _ _ hR
set_option maxHeartbeats 4000000 in
set_option maxRecDepth 100000 in
theorem wnX11_feed (Q Q' : Int32 → XT → Prop) (hQ : (∀ (r : Int32) (t : XT), Q r t → Q' r t)) : ∀ k k' : Nat, k ≤ k' → (∀ (t : XT) (li : Nat → Int32) (lj : Nat → Int64), wpX11_feed k 0 t li lj Q → wpX11_feed k' 0 t li lj Q') := by
  intro k
  induction k with
  | zero => intro k' _; exact fun _ _ _ hR => False.elim hR
  | succ k ih =>
    intro k' hk
    cases k' with
    | zero => exact absurd hk (Nat.not_succ_le_zero k)
    | succ k' =>
      have hk := Nat.le_of_succ_le_succ hk
      have ihk := ih k' hk
      intro t li lj hR
      have hR : wbX11_feed_0 (wpX11_feed k) k t li lj Q := hR
      show wbX11_feed_0 (wpX11_feed k') k' t li lj Q'
      unfold wbX11_feed_0 at hR ⊢
      exact fun x2 e2 => ⟨fun c1 => wmX10_append hk (fun y3_0 h3 => wmX10_append hk (fun y4_0 h4 => wmX10_append hk (fun y5_0 h5 => wmX10_append hk (fun y6_0 h6 => wmX10_append hk (fun y7_0 h7 => hQ _ _ h7) h6) h5) h4) h3) ((hR x2 e2).1 c1), fun c1 => hQ _ _ ((hR x2 e2).2 c1)⟩
theorem wmX11_feed {k k' : Nat} {t : XT} {a1 : Int32} {a2 : Int32} {a3 : Int32} {a4 : Int32} {a5 : Int32} {Q Q' : Int32 → XT → Prop} (hk : k ≤ k') (hQ : (∀ (r : Int32) (t : XT), Q r t → Q' r t)) (hR : wqX11_feed k t a1 a2 a3 a4 a5 Q) : wqX11_feed k' t a1 a2 a3 a4 a5 Q' := (wnX11_feed Q Q' hQ k k' hk) _ _ _ hR
set_option maxHeartbeats 4000000 in
set_option maxRecDepth 100000 in
theorem wnX11_end (Q Q' : Int32 → XT → Prop) (hQ : (∀ (r : Int32) (t : XT), Q r t → Q' r t)) : ∀ k k' : Nat, k ≤ k' → (∀ (t : XT) (li : Nat → Int32) (lj : Nat → Int64), wpX11_end k 0 t li lj Q → wpX11_end k' 0 t li lj Q') ∧ (∀ (t : XT) (li : Nat → Int32) (lj : Nat → Int64), wpX11_end k 1 t li lj Q → wpX11_end k' 1 t li lj Q') := by
  intro k
  induction k with
  | zero => intro k' _; exact ⟨fun _ _ _ hR => False.elim hR, fun _ _ _ hR => False.elim hR⟩
  | succ k ih =>
    intro k' hk
    cases k' with
    | zero => exact absurd hk (Nat.not_succ_le_zero k)
    | succ k' =>
      have hk := Nat.le_of_succ_le_succ hk
      have ihk := ih k' hk
      refine ⟨?_, ?_⟩
      · intro t li lj hR
        have hR : wbX11_end_0 (wpX11_end k) k t li lj Q := hR
        show wbX11_end_0 (wpX11_end k') k' t li lj Q'
        unfold wbX11_end_0 at hR ⊢
        exact ⟨fun c2 => ihk.2 _ _ _ (hR.1 c2), fun c2 => ⟨fun c1 => fun x3 e3 => hQ _ _ (((hR.2 c2).1 c1) x3 e3), fun c1 => ihk.2 _ _ _ ((hR.2 c2).2 c1)⟩⟩
      · intro t li lj hR
        have hR : wbX11_end_1 (wpX11_end k) k t li lj Q := hR
        show wbX11_end_1 (wpX11_end k') k' t li lj Q'
        unfold wbX11_end_1 at hR ⊢
        exact hQ _ _ hR
theorem wmX11_end {k k' : Nat} {t : XT} {a1 : Int32} {Q Q' : Int32 → XT → Prop} (hk : k ≤ k') (hQ : (∀ (r : Int32) (t : XT), Q r t → Q' r t)) (hR : wqX11_end k t a1 Q) : wqX11_end k' t a1 Q' := (wnX11_end Q Q' hQ k k' hk).1 _ _ _ hR
set_option maxHeartbeats 4000000 in
set_option maxRecDepth 100000 in
theorem wnX8_fault (Q Q' : Int32 → Prop) (hQ : (∀ (r : Int32), Q r → Q' r)) : ∀ k k' : Nat, k ≤ k' → (∀ (li : Nat → Int32) (lj : Nat → Int64), wpX8_fault k 0 li lj Q → wpX8_fault k' 0 li lj Q') := by
  intro k
  induction k with
  | zero => intro k' _; exact fun _ _ hR => False.elim hR
  | succ k ih =>
    intro k' hk
    cases k' with
    | zero => exact absurd hk (Nat.not_succ_le_zero k)
    | succ k' =>
      have hk := Nat.le_of_succ_le_succ hk
      have ihk := ih k' hk
      intro li lj hR
      have hR : wbX8_fault_0 (wpX8_fault k) k li lj Q := hR
      show wbX8_fault_0 (wpX8_fault k') k' li lj Q'
      unfold wbX8_fault_0 at hR ⊢
      exact fun x1 e1 => fun x2 e2 => hQ _ ((hR x1 e1) x2 e2)
theorem wmX8_fault {k k' : Nat} {a0 : Int32} {a1 : Int32} {Q Q' : Int32 → Prop} (hk : k ≤ k') (hQ : (∀ (r : Int32), Q r → Q' r)) (hR : wqX8_fault k a0 a1 Q) : wqX8_fault k' a0 a1 Q' := (wnX8_fault Q Q' hQ k k' hk) _ _ hR
set_option maxHeartbeats 4000000 in
set_option maxRecDepth 100000 in
theorem wnX10_at (Q Q' : Int32 → XT → Prop) (hQ : (∀ (r : Int32) (t : XT), Q r t → Q' r t)) : ∀ k k' : Nat, k ≤ k' → (∀ (t : XT) (li : Nat → Int32) (lj : Nat → Int64), wpX10_at k 0 t li lj Q → wpX10_at k' 0 t li lj Q') ∧ (∀ (t : XT) (li : Nat → Int32) (lj : Nat → Int64), wpX10_at k 1 t li lj Q → wpX10_at k' 1 t li lj Q') := by
  intro k
  induction k with
  | zero => intro k' _; exact ⟨fun _ _ _ hR => False.elim hR, fun _ _ _ hR => False.elim hR⟩
  | succ k ih =>
    intro k' hk
    cases k' with
    | zero => exact absurd hk (Nat.not_succ_le_zero k)
    | succ k' =>
      have hk := Nat.le_of_succ_le_succ hk
      have ihk := ih k' hk
      refine ⟨?_, ?_⟩
      · intro t li lj hR
        have hR : wbX10_at_0 (wpX10_at k) k t li lj Q := hR
        show wbX10_at_0 (wpX10_at k') k' t li lj Q'
        unfold wbX10_at_0 at hR ⊢
        exact ⟨fun c2 => ihk.2 _ _ _ (hR.1 c2), fun c2 => ⟨fun c1 => ihk.2 _ _ _ ((hR.2 c2).1 c1), fun c1 => ⟨((hR.2 c2).2 c1).1, fun x3 e3 => hQ _ _ (((hR.2 c2).2 c1).2 x3 e3)⟩⟩⟩
      · intro t li lj hR
        have hR : wbX10_at_1 (wpX10_at k) k t li lj Q := hR
        show wbX10_at_1 (wpX10_at k') k' t li lj Q'
        unfold wbX10_at_1 at hR ⊢
        exact hQ _ _ hR
theorem wmX10_at {k k' : Nat} {t : XT} {a1 : Int32} {Q Q' : Int32 → XT → Prop} (hk : k ≤ k') (hQ : (∀ (r : Int32) (t : XT), Q r t → Q' r t)) (hR : wqX10_at k t a1 Q) : wqX10_at k' t a1 Q' := (wnX10_at Q Q' hQ k k' hk).1 _ _ _ hR
set_option maxHeartbeats 4000000 in
set_option maxRecDepth 100000 in
theorem wnX8_skipBlanks_c1 (Q Q' : XT → Prop) (hQ : (∀ (t : XT), Q t → Q' t)) : ∀ k k' : Nat, k ≤ k' → (∀ (t : XT) (li : Nat → Int32) (lj : Nat → Int64), wpX8_skipBlanks_c1 k 0 t li lj Q → wpX8_skipBlanks_c1 k' 0 t li lj Q') := by
  intro k
  induction k with
  | zero => intro k' _; exact fun _ _ _ hR => False.elim hR
  | succ k ih =>
    intro k' hk
    cases k' with
    | zero => exact absurd hk (Nat.not_succ_le_zero k)
    | succ k' =>
      have hk := Nat.le_of_succ_le_succ hk
      have ihk := ih k' hk
      intro t li lj hR
      have hR : wbX8_skipBlanks_c1_0 (wpX8_skipBlanks_c1 k) k t li lj Q := hR
      show wbX8_skipBlanks_c1_0 (wpX8_skipBlanks_c1 k') k' t li lj Q'
      unfold wbX8_skipBlanks_c1_0 at hR ⊢
      exact ⟨fun c2 => hQ _ (hR.1 c2), fun c2 => wmX10_at hk (fun y3_0 y3_1 h3 => ⟨fun c1 => hQ _ (h3.1 c1), fun c1 => fun x4 e4 => fun x5 e5 => ihk _ _ _ (((h3.2 c1) x4 e4) x5 e5)⟩) (hR.2 c2)⟩
theorem wmX8_skipBlanks_c1 {k k' : Nat} {t : XT}  {Q Q' : XT → Prop} (hk : k ≤ k') (hQ : (∀ (t : XT), Q t → Q' t)) (hR : wqX8_skipBlanks_c1 k t  Q) : wqX8_skipBlanks_c1 k' t  Q' := (wnX8_skipBlanks_c1 Q Q' hQ k k' hk) _ _ _ hR
set_option maxHeartbeats 4000000 in
set_option maxRecDepth 100000 in
theorem wnX8_isLetter (Q Q' : Int32 → Prop) (hQ : (∀ (r : Int32), Q r → Q' r)) : ∀ k k' : Nat, k ≤ k' → (∀ (li : Nat → Int32) (lj : Nat → Int64), wpX8_isLetter k 0 li lj Q → wpX8_isLetter k' 0 li lj Q') ∧ (∀ (li : Nat → Int32) (lj : Nat → Int64), wpX8_isLetter k 1 li lj Q → wpX8_isLetter k' 1 li lj Q') := by
  intro k
  induction k with
  | zero => intro k' _; exact ⟨fun _ _ hR => False.elim hR, fun _ _ hR => False.elim hR⟩
  | succ k ih =>
    intro k' hk
    cases k' with
    | zero => exact absurd hk (Nat.not_succ_le_zero k)
    | succ k' =>
      have hk := Nat.le_of_succ_le_succ hk
      have ihk := ih k' hk
      refine ⟨?_, ?_⟩
      · intro li lj hR
        have hR : wbX8_isLetter_0 (wpX8_isLetter k) k li lj Q := hR
        show wbX8_isLetter_0 (wpX8_isLetter k') k' li lj Q'
        unfold wbX8_isLetter_0 at hR ⊢
        exact ⟨fun c2 => ihk.2 _ _ (hR.1 c2), fun c2 => ⟨fun c1 => ihk.2 _ _ ((hR.2 c2).1 c1), fun c1 => hQ _ ((hR.2 c2).2 c1)⟩⟩
      · intro li lj hR
        have hR : wbX8_isLetter_1 (wpX8_isLetter k) k li lj Q := hR
        show wbX8_isLetter_1 (wpX8_isLetter k') k' li lj Q'
        unfold wbX8_isLetter_1 at hR ⊢
        exact hQ _ hR
theorem wmX8_isLetter {k k' : Nat} {a0 : Int32} {Q Q' : Int32 → Prop} (hk : k ≤ k') (hQ : (∀ (r : Int32), Q r → Q' r)) (hR : wqX8_isLetter k a0 Q) : wqX8_isLetter k' a0 Q' := (wnX8_isLetter Q Q' hQ k k' hk).1 _ _ hR
set_option maxHeartbeats 4000000 in
set_option maxRecDepth 100000 in
theorem wnX8_tell (Q Q' : XT → Prop) (hQ : (∀ (t : XT), Q t → Q' t)) : ∀ k k' : Nat, k ≤ k' → (∀ (t : XT) (li : Nat → Int32) (lj : Nat → Int64), wpX8_tell k 0 t li lj Q → wpX8_tell k' 0 t li lj Q') ∧ (∀ (t : XT) (li : Nat → Int32) (lj : Nat → Int64), wpX8_tell k 1 t li lj Q → wpX8_tell k' 1 t li lj Q') ∧ (∀ (t : XT) (li : Nat → Int32) (lj : Nat → Int64), wpX8_tell k 2 t li lj Q → wpX8_tell k' 2 t li lj Q') := by
  intro k
  induction k with
  | zero => intro k' _; exact ⟨fun _ _ _ hR => False.elim hR, fun _ _ _ hR => False.elim hR, fun _ _ _ hR => False.elim hR⟩
  | succ k ih =>
    intro k' hk
    cases k' with
    | zero => exact absurd hk (Nat.not_succ_le_zero k)
    | succ k' =>
      have hk := Nat.le_of_succ_le_succ hk
      have ihk := ih k' hk
      refine ⟨?_, ?_, ?_⟩
      · intro t li lj hR
        have hR : wbX8_tell_0 (wpX8_tell k) k t li lj Q := hR
        show wbX8_tell_0 (wpX8_tell k') k' t li lj Q'
        unfold wbX8_tell_0 at hR ⊢
        exact ihk.2.1 _ _ _ hR
      · intro t li lj hR
        have hR : wbX8_tell_1 (wpX8_tell k) k t li lj Q := hR
        show wbX8_tell_1 (wpX8_tell k') k' t li lj Q'
        unfold wbX8_tell_1 at hR ⊢
        exact ⟨fun c4 => hQ _ (hR.1 c4), fun c4 => ⟨fun c3 => hQ _ ((hR.2 c4).1 c3), fun c3 => fun x5 e5 => fun x6 e6 => ⟨fun c2 => ihk.2.2 _ _ _ (((((hR.2 c4).2 c3) x5 e5) x6 e6).1 c2), fun c2 => ⟨(((((hR.2 c4).2 c3) x5 e5) x6 e6).2 c2).1, fun x7 e7 => ⟨fun c1 => ihk.2.2 _ _ _ (((((((hR.2 c4).2 c3) x5 e5) x6 e6).2 c2).2 x7 e7).1 c1), fun c1 => ⟨(((((((hR.2 c4).2 c3) x5 e5) x6 e6).2 c2).2 x7 e7).2 c1).1, fun x8 e8 => fun x9 e9 => fun x10 e10 => ihk.2.2 _ _ _ ((((((((((hR.2 c4).2 c3) x5 e5) x6 e6).2 c2).2 x7 e7).2 c1).2 x8 e8) x9 e9) x10 e10)⟩⟩⟩⟩⟩⟩
      · intro t li lj hR
        have hR : wbX8_tell_2 (wpX8_tell k) k t li lj Q := hR
        show wbX8_tell_2 (wpX8_tell k') k' t li lj Q'
        unfold wbX8_tell_2 at hR ⊢
        exact fun x11 e11 => ihk.2.1 _ _ _ (hR x11 e11)
theorem wmX8_tell {k k' : Nat} {t : XT} {a1 : Int32} {Q Q' : XT → Prop} (hk : k ≤ k') (hQ : (∀ (t : XT), Q t → Q' t)) (hR : wqX8_tell k t a1 Q) : wqX8_tell k' t a1 Q' := (wnX8_tell Q Q' hQ k k' hk).1 _ _ _ hR
set_option maxHeartbeats 4000000 in
set_option maxRecDepth 100000 in
theorem wnX8_readFacet_c1 (Q Q' : Int32 → XT → Prop) (hQ : (∀ (r : Int32) (t : XT), Q r t → Q' r t)) : ∀ k k' : Nat, k ≤ k' → (∀ (t : XT) (li : Nat → Int32) (lj : Nat → Int64), wpX8_readFacet_c1 k 0 t li lj Q → wpX8_readFacet_c1 k' 0 t li lj Q') ∧ (∀ (t : XT) (li : Nat → Int32) (lj : Nat → Int64), wpX8_readFacet_c1 k 1 t li lj Q → wpX8_readFacet_c1 k' 1 t li lj Q') ∧ (∀ (t : XT) (li : Nat → Int32) (lj : Nat → Int64), wpX8_readFacet_c1 k 2 t li lj Q → wpX8_readFacet_c1 k' 2 t li lj Q') := by
  intro k
  induction k with
  | zero => intro k' _; exact ⟨fun _ _ _ hR => False.elim hR, fun _ _ _ hR => False.elim hR, fun _ _ _ hR => False.elim hR⟩
  | succ k ih =>
    intro k' hk
    cases k' with
    | zero => exact absurd hk (Nat.not_succ_le_zero k)
    | succ k' =>
      have hk := Nat.le_of_succ_le_succ hk
      have ihk := ih k' hk
      refine ⟨?_, ?_, ?_⟩
      · intro t li lj hR
        have hR : wbX8_readFacet_c1_0 (wpX8_readFacet_c1 k) k t li lj Q := hR
        show wbX8_readFacet_c1_0 (wpX8_readFacet_c1 k') k' t li lj Q'
        unfold wbX8_readFacet_c1_0 at hR ⊢
        exact wmX10_at hk (fun y8_0 y8_1 h8 => wmX8_isLetter hk (fun y9_0 h9 => ⟨fun c2 => ⟨fun c1 => ihk.2.1 _ _ _ ((h9.1 c2).1 c1), fun c1 => wmX8_fault hk (fun y10_0 h10 => hQ _ _ h10) ((h9.1 c2).2 c1)⟩, fun c2 => wmX8_fault hk (fun y11_0 h11 => hQ _ _ h11) (h9.2 c2)⟩) h8) hR
      · intro t li lj hR
        have hR : wbX8_readFacet_c1_1 (wpX8_readFacet_c1 k) k t li lj Q := hR
        show wbX8_readFacet_c1_1 (wpX8_readFacet_c1 k') k' t li lj Q'
        unfold wbX8_readFacet_c1_1 at hR ⊢
        exact ⟨fun c6 => ihk.2.2 _ _ _ (hR.1 c6), fun c6 => wmX10_at hk (fun y12_0 y12_1 h12 => wmX8_isLetter hk (fun y13_0 h13 => ⟨fun c5 => ihk.2.2 _ _ _ (h13.1 c5), fun c5 => wmX10_at hk (fun y14_0 y14_1 h14 => fun x15 e15 => fun x16 e16 => fun x17 e17 => ⟨fun c4 => wmJ6_bitCount_0f7a4 hk (fun y18_0 h18 => ⟨fun c3 => fun x19 e19 => fun x20 e20 => fun x21 e21 => ihk.2.1 _ _ _ ((((h18.1 c3) x19 e19) x20 e20) x21 e21), fun c3 => wmX8_fault hk (fun y22_0 h22 => hQ _ _ h22) (h18.2 c3)⟩) ((((h14 x15 e15) x16 e16) x17 e17).1 c4), fun c4 => wmX8_fault hk (fun y23_0 h23 => hQ _ _ h23) ((((h14 x15 e15) x16 e16) x17 e17).2 c4)⟩) (h13.2 c5)⟩) h12) (hR.2 c6)⟩
      · intro t li lj hR
        have hR : wbX8_readFacet_c1_2 (wpX8_readFacet_c1 k) k t li lj Q := hR
        show wbX8_readFacet_c1_2 (wpX8_readFacet_c1 k') k' t li lj Q'
        unfold wbX8_readFacet_c1_2 at hR ⊢
        exact wmX8_tell hk (fun y24_0 h24 => ⟨fun c7 => hQ _ _ (h24.1 c7), fun c7 => wmX8_fault hk (fun y25_0 h25 => hQ _ _ h25) (h24.2 c7)⟩) hR
theorem wmX8_readFacet_c1 {k k' : Nat} {t : XT} {a2 : Int32} {Q Q' : Int32 → XT → Prop} (hk : k ≤ k') (hQ : (∀ (r : Int32) (t : XT), Q r t → Q' r t)) (hR : wqX8_readFacet_c1 k t a2 Q) : wqX8_readFacet_c1 k' t a2 Q' := (wnX8_readFacet_c1 Q Q' hQ k k' hk).1 _ _ _ hR
set_option maxHeartbeats 4000000 in
set_option maxRecDepth 100000 in
theorem wnX8_read_c1 (Q Q' : Int32 → XT → Prop) (hQ : (∀ (r : Int32) (t : XT), Q r t → Q' r t)) : ∀ k k' : Nat, k ≤ k' → (∀ (t : XT) (li : Nat → Int32) (lj : Nat → Int64), wpX8_read_c1 k 0 t li lj Q → wpX8_read_c1 k' 0 t li lj Q') ∧ (∀ (t : XT) (li : Nat → Int32) (lj : Nat → Int64), wpX8_read_c1 k 1 t li lj Q → wpX8_read_c1 k' 1 t li lj Q') := by
  intro k
  induction k with
  | zero => intro k' _; exact ⟨fun _ _ _ hR => False.elim hR, fun _ _ _ hR => False.elim hR⟩
  | succ k ih =>
    intro k' hk
    cases k' with
    | zero => exact absurd hk (Nat.not_succ_le_zero k)
    | succ k' =>
      have hk := Nat.le_of_succ_le_succ hk
      have ihk := ih k' hk
      refine ⟨?_, ?_⟩
      · intro t li lj hR
        have hR : wbX8_read_c1_0 (wpX8_read_c1 k) k t li lj Q := hR
        show wbX8_read_c1_0 (wpX8_read_c1 k') k' t li lj Q'
        unfold wbX8_read_c1_0 at hR ⊢
        exact fun x5 e5 => fun x6 e6 => fun x7 e7 => ihk.2 _ _ _ (((hR x5 e5) x6 e6) x7 e7)
      · intro t li lj hR
        have hR : wbX8_read_c1_1 (wpX8_read_c1 k) k t li lj Q := hR
        show wbX8_read_c1_1 (wpX8_read_c1 k') k' t li lj Q'
        unfold wbX8_read_c1_1 at hR ⊢
        exact ⟨fun c4 => wmX8_fault hk (fun y8_0 h8 => hQ _ _ h8) (hR.1 c4), fun c4 => wmX8_skipBlanks_c1 hk (fun y9_0 h9 => wmX8_readFacet_c1 hk (fun y10_0 y10_1 h10 => ⟨fun c3 => wmX8_skipBlanks_c1 hk (fun y11_0 h11 => ⟨fun c2 => wmX10_at hk (fun y12_0 y12_1 h12 => ⟨fun c1 => fun x13 e13 => fun x14 e14 => fun x15 e15 => ihk.2 _ _ _ ((((h12.1 c1) x13 e13) x14 e14) x15 e15), fun c1 => wmX8_fault hk (fun y16_0 h16 => hQ _ _ h16) (h12.2 c1)⟩) (h11.1 c2), fun c2 => hQ _ _ (h11.2 c2)⟩) (h10.1 c3), fun c3 => hQ _ _ (h10.2 c3)⟩) h9) (hR.2 c4)⟩
theorem wmX8_read_c1 {k k' : Nat} {t : XT}  {Q Q' : Int32 → XT → Prop} (hk : k ≤ k') (hQ : (∀ (r : Int32) (t : XT), Q r t → Q' r t)) (hR : wqX8_read_c1 k t  Q) : wqX8_read_c1 k' t  Q' := (wnX8_read_c1 Q Q' hQ k k' hk).1 _ _ _ hR
set_option maxHeartbeats 4000000 in
set_option maxRecDepth 100000 in
theorem wnX11_bit (Q Q' : Int64 → Prop) (hQ : (∀ (r : Int64), Q r → Q' r)) : ∀ k k' : Nat, k ≤ k' → (∀ (li : Nat → Int32) (lj : Nat → Int64), wpX11_bit k 0 li lj Q → wpX11_bit k' 0 li lj Q') := by
  intro k
  induction k with
  | zero => intro k' _; exact fun _ _ hR => False.elim hR
  | succ k ih =>
    intro k' hk
    cases k' with
    | zero => exact absurd hk (Nat.not_succ_le_zero k)
    | succ k' =>
      have hk := Nat.le_of_succ_le_succ hk
      have ihk := ih k' hk
      intro li lj hR
      have hR : wbX11_bit_0 (wpX11_bit k) k li lj Q := hR
      show wbX11_bit_0 (wpX11_bit k') k' li lj Q'
      unfold wbX11_bit_0 at hR ⊢
      exact fun x1 e1 => hQ _ (hR x1 e1)
theorem wmX11_bit {k k' : Nat} {a0 : Int32} {Q Q' : Int64 → Prop} (hk : k ≤ k') (hQ : (∀ (r : Int64), Q r → Q' r)) (hR : wqX11_bit k a0 Q) : wqX11_bit k' a0 Q' := (wnX11_bit Q Q' hQ k k' hk) _ _ hR
set_option maxHeartbeats 4000000 in
set_option maxRecDepth 100000 in
theorem wnX9_add (Q Q' : XT → Prop) (hQ : (∀ (t : XT), Q t → Q' t)) : ∀ k k' : Nat, k ≤ k' → (∀ (t : XT) (li : Nat → Int32) (lj : Nat → Int64), wpX9_add k 0 t li lj Q → wpX9_add k' 0 t li lj Q') ∧ (∀ (t : XT) (li : Nat → Int32) (lj : Nat → Int64), wpX9_add k 1 t li lj Q → wpX9_add k' 1 t li lj Q') ∧ (∀ (t : XT) (li : Nat → Int32) (lj : Nat → Int64), wpX9_add k 2 t li lj Q → wpX9_add k' 2 t li lj Q') ∧ (∀ (t : XT) (li : Nat → Int32) (lj : Nat → Int64), wpX9_add k 3 t li lj Q → wpX9_add k' 3 t li lj Q') := by
  intro k
  induction k with
  | zero => intro k' _; exact ⟨fun _ _ _ hR => False.elim hR, fun _ _ _ hR => False.elim hR, fun _ _ _ hR => False.elim hR, fun _ _ _ hR => False.elim hR⟩
  | succ k ih =>
    intro k' hk
    cases k' with
    | zero => exact absurd hk (Nat.not_succ_le_zero k)
    | succ k' =>
      have hk := Nat.le_of_succ_le_succ hk
      have ihk := ih k' hk
      refine ⟨?_, ?_, ?_, ?_⟩
      · intro t li lj hR
        have hR : wbX9_add_0 (wpX9_add k) k t li lj Q := hR
        show wbX9_add_0 (wpX9_add k') k' t li lj Q'
        unfold wbX9_add_0 at hR ⊢
        exact ⟨hR.1, fun x4 e4 => ⟨(hR.2 x4 e4).1, fun x5 e5 => ⟨((hR.2 x4 e4).2 x5 e5).1, fun x6 e6 => ⟨(((hR.2 x4 e4).2 x5 e5).2 x6 e6).1, fun x7 e7 => wmX11_bit hk (fun y8_0 h8 => fun x9 e9 => ⟨(h8 x9 e9).1, fun x10 e10 => ihk.2.1 _ _ _ ((h8 x9 e9).2 x10 e10)⟩) ((((hR.2 x4 e4).2 x5 e5).2 x6 e6).2 x7 e7)⟩⟩⟩⟩
      · intro t li lj hR
        have hR : wbX9_add_1 (wpX9_add k) k t li lj Q := hR
        show wbX9_add_1 (wpX9_add k') k' t li lj Q'
        unfold wbX9_add_1 at hR ⊢
        exact ⟨fun c2 => fun x11 e11 => fun x12 e12 => hQ _ (((hR.1 c2) x11 e11) x12 e12), fun c2 => fun x13 e13 => fun x14 e14 => fun x15 e15 => ⟨fun c1 => ihk.2.2.1 _ _ _ (((((hR.2 c2) x13 e13) x14 e14) x15 e15).1 c1), fun c1 => ⟨(((((hR.2 c2) x13 e13) x14 e14) x15 e15).2 c1).1, fun x16 e16 => ihk.2.2.1 _ _ _ ((((((hR.2 c2) x13 e13) x14 e14) x15 e15).2 c1).2 x16 e16)⟩⟩⟩
      · intro t li lj hR
        have hR : wbX9_add_2 (wpX9_add k) k t li lj Q := hR
        show wbX9_add_2 (wpX9_add k') k' t li lj Q'
        unfold wbX9_add_2 at hR ⊢
        exact ⟨fun c3 => ihk.2.2.2 _ _ _ (hR.1 c3), fun c3 => ⟨(hR.2 c3).1, fun x17 e17 => wmX11_bit hk (fun y18_0 h18 => fun x19 e19 => ⟨(h18 x19 e19).1, fun x20 e20 => ⟨((h18 x19 e19).2 x20 e20).1, fun x21 e21 => wmX11_bit hk (fun y22_0 h22 => fun x23 e23 => ⟨(h22 x23 e23).1, fun x24 e24 => ihk.2.2.2 _ _ _ ((h22 x23 e23).2 x24 e24)⟩) (((h18 x19 e19).2 x20 e20).2 x21 e21)⟩⟩) ((hR.2 c3).2 x17 e17)⟩⟩
      · intro t li lj hR
        have hR : wbX9_add_3 (wpX9_add k) k t li lj Q := hR
        show wbX9_add_3 (wpX9_add k') k' t li lj Q'
        unfold wbX9_add_3 at hR ⊢
        exact fun x25 e25 => ihk.2.1 _ _ _ (hR x25 e25)
theorem wmX9_add {k k' : Nat} {t : XT} {a1 : Int32} {a2 : Int32} {Q Q' : XT → Prop} (hk : k ≤ k') (hQ : (∀ (t : XT), Q t → Q' t)) (hR : wqX9_add k t a1 a2 Q) : wqX9_add k' t a1 a2 Q' := (wnX9_add Q Q' hQ k k' hk).1 _ _ _ hR
set_option maxHeartbeats 4000000 in
set_option maxRecDepth 100000 in
theorem wnX9_build_c13 (Q Q' : XT → Prop) (hQ : (∀ (t : XT), Q t → Q' t)) : ∀ k k' : Nat, k ≤ k' → (∀ (t : XT) (li : Nat → Int32) (lj : Nat → Int64), wpX9_build_c13 k 0 t li lj Q → wpX9_build_c13 k' 0 t li lj Q') ∧ (∀ (t : XT) (li : Nat → Int32) (lj : Nat → Int64), wpX9_build_c13 k 1 t li lj Q → wpX9_build_c13 k' 1 t li lj Q') ∧ (∀ (t : XT) (li : Nat → Int32) (lj : Nat → Int64), wpX9_build_c13 k 2 t li lj Q → wpX9_build_c13 k' 2 t li lj Q') ∧ (∀ (t : XT) (li : Nat → Int32) (lj : Nat → Int64), wpX9_build_c13 k 3 t li lj Q → wpX9_build_c13 k' 3 t li lj Q') ∧ (∀ (t : XT) (li : Nat → Int32) (lj : Nat → Int64), wpX9_build_c13 k 4 t li lj Q → wpX9_build_c13 k' 4 t li lj Q') := by
  intro k
  induction k with
  | zero => intro k' _; exact ⟨fun _ _ _ hR => False.elim hR, fun _ _ _ hR => False.elim hR, fun _ _ _ hR => False.elim hR, fun _ _ _ hR => False.elim hR, fun _ _ _ hR => False.elim hR⟩
  | succ k ih =>
    intro k' hk
    cases k' with
    | zero => exact absurd hk (Nat.not_succ_le_zero k)
    | succ k' =>
      have hk := Nat.le_of_succ_le_succ hk
      have ihk := ih k' hk
      refine ⟨?_, ?_, ?_, ?_, ?_⟩
      · intro t li lj hR
        have hR : wbX9_build_c13_0 (wpX9_build_c13 k) k t li lj Q := hR
        show wbX9_build_c13_0 (wpX9_build_c13 k') k' t li lj Q'
        unfold wbX9_build_c13_0 at hR ⊢
        exact fun x7 e7 => fun x8 e8 => fun x9 e9 => fun x10 e10 => fun x11 e11 => ihk.2.1 _ _ _ (((((hR x7 e7) x8 e8) x9 e9) x10 e10) x11 e11)
      · intro t li lj hR
        have hR : wbX9_build_c13_1 (wpX9_build_c13 k) k t li lj Q := hR
        show wbX9_build_c13_1 (wpX9_build_c13 k') k' t li lj Q'
        unfold wbX9_build_c13_1 at hR ⊢
        exact ⟨fun c1 => hQ _ (hR.1 c1), fun c1 => ihk.2.2.1 _ _ _ (hR.2 c1)⟩
      · intro t li lj hR
        have hR : wbX9_build_c13_2 (wpX9_build_c13 k) k t li lj Q := hR
        show wbX9_build_c13_2 (wpX9_build_c13 k') k' t li lj Q'
        unfold wbX9_build_c13_2 at hR ⊢
        exact ⟨fun c6 => ihk.2.2.2.2 _ _ _ (hR.1 c6), fun c6 => ⟨fun c5 => ihk.2.2.2.2 _ _ _ ((hR.2 c6).1 c5), fun c5 => ⟨((hR.2 c6).2 c5).1, fun x12 e12 => ⟨fun c4 => ihk.2.2.2.1 _ _ _ ((((hR.2 c6).2 c5).2 x12 e12).1 c4), fun c4 => wmJ6_bitCount_0f7a4 hk (fun y13_0 h13 => fun x14 e14 => ⟨fun c3 => ihk.2.2.2.1 _ _ _ ((h13 x14 e14).1 c3), fun c3 => ⟨fun c2 => ihk.2.2.2.1 _ _ _ (((h13 x14 e14).2 c3).1 c2), fun c2 => wmX9_add hk (fun y15_0 h15 => ihk.2.2.2.1 _ _ _ h15) (((h13 x14 e14).2 c3).2 c2)⟩⟩) ((((hR.2 c6).2 c5).2 x12 e12).2 c4)⟩⟩⟩⟩
      · intro t li lj hR
        have hR : wbX9_build_c13_3 (wpX9_build_c13 k) k t li lj Q := hR
        show wbX9_build_c13_3 (wpX9_build_c13 k') k' t li lj Q'
        unfold wbX9_build_c13_3 at hR ⊢
        exact fun x16 e16 => ihk.2.2.1 _ _ _ (hR x16 e16)
      · intro t li lj hR
        have hR : wbX9_build_c13_4 (wpX9_build_c13 k) k t li lj Q := hR
        show wbX9_build_c13_4 (wpX9_build_c13 k') k' t li lj Q'
        unfold wbX9_build_c13_4 at hR ⊢
        exact fun x17 e17 => ihk.2.1 _ _ _ (hR x17 e17)
theorem wmX9_build_c13 {k k' : Nat} {t : XT}  {Q Q' : XT → Prop} (hk : k ≤ k') (hQ : (∀ (t : XT), Q t → Q' t)) (hR : wqX9_build_c13 k t  Q) : wqX9_build_c13 k' t  Q' := (wnX9_build_c13 Q Q' hQ k k' hk).1 _ _ _ hR
set_option maxHeartbeats 4000000 in
set_option maxRecDepth 100000 in
theorem wnX9_all (Q Q' : Int64 → XT → Prop) (hQ : (∀ (r : Int64) (t : XT), Q r t → Q' r t)) : ∀ k k' : Nat, k ≤ k' → (∀ (t : XT) (li : Nat → Int32) (lj : Nat → Int64), wpX9_all k 0 t li lj Q → wpX9_all k' 0 t li lj Q') := by
  intro k
  induction k with
  | zero => intro k' _; exact fun _ _ _ hR => False.elim hR
  | succ k ih =>
    intro k' hk
    cases k' with
    | zero => exact absurd hk (Nat.not_succ_le_zero k)
    | succ k' =>
      have hk := Nat.le_of_succ_le_succ hk
      have ihk := ih k' hk
      intro t li lj hR
      have hR : wbX9_all_0 (wpX9_all k) k t li lj Q := hR
      show wbX9_all_0 (wpX9_all k') k' t li lj Q'
      unfold wbX9_all_0 at hR ⊢
      exact wmX11_bit hk (fun y1_0 h1 => fun x2 e2 => hQ _ _ (h1 x2 e2)) hR
theorem wmX9_all {k k' : Nat} {t : XT}  {Q Q' : Int64 → XT → Prop} (hk : k ≤ k') (hQ : (∀ (r : Int64) (t : XT), Q r t → Q' r t)) (hR : wqX9_all k t  Q) : wqX9_all k' t  Q' := (wnX9_all Q Q' hQ k k' hk) _ _ _ hR
set_option maxHeartbeats 4000000 in
set_option maxRecDepth 100000 in
theorem wnX6_restart (Q Q' : XT → Prop) (hQ : (∀ (t : XT), Q t → Q' t)) : ∀ k k' : Nat, k ≤ k' → (∀ (t : XT) (li : Nat → Int32) (lj : Nat → Int64), wpX6_restart k 0 t li lj Q → wpX6_restart k' 0 t li lj Q') := by
  intro k
  induction k with
  | zero => intro k' _; exact fun _ _ _ hR => False.elim hR
  | succ k ih =>
    intro k' hk
    cases k' with
    | zero => exact absurd hk (Nat.not_succ_le_zero k)
    | succ k' =>
      have hk := Nat.le_of_succ_le_succ hk
      have ihk := ih k' hk
      intro t li lj hR
      have hR : wbX6_restart_0 (wpX6_restart k) k t li lj Q := hR
      show wbX6_restart_0 (wpX6_restart k') k' t li lj Q'
      unfold wbX6_restart_0 at hR ⊢
      exact fun x1 e1 => fun x2 e2 => fun x3 e3 => fun x4 e4 => fun x5 e5 => fun x6 e6 => hQ _ ((((((hR x1 e1) x2 e2) x3 e3) x4 e4) x5 e5) x6 e6)
theorem wmX6_restart {k k' : Nat} {t : XT} {a1 : Int64} {Q Q' : XT → Prop} (hk : k ≤ k') (hQ : (∀ (t : XT), Q t → Q' t)) (hR : wqX6_restart k t a1 Q) : wqX6_restart k' t a1 Q' := (wnX6_restart Q Q' hQ k k' hk) _ _ _ hR
set_option maxHeartbeats 4000000 in
set_option maxRecDepth 100000 in
theorem wnX4_forget (Q Q' : XT → Prop) (hQ : (∀ (t : XT), Q t → Q' t)) : ∀ k k' : Nat, k ≤ k' → (∀ (t : XT) (li : Nat → Int32) (lj : Nat → Int64), wpX4_forget k 0 t li lj Q → wpX4_forget k' 0 t li lj Q') := by
  intro k
  induction k with
  | zero => intro k' _; exact fun _ _ _ hR => False.elim hR
  | succ k ih =>
    intro k' hk
    cases k' with
    | zero => exact absurd hk (Nat.not_succ_le_zero k)
    | succ k' =>
      have hk := Nat.le_of_succ_le_succ hk
      have ihk := ih k' hk
      intro t li lj hR
      have hR : wbX4_forget_0 (wpX4_forget k) k t li lj Q := hR
      show wbX4_forget_0 (wpX4_forget k') k' t li lj Q'
      unfold wbX4_forget_0 at hR ⊢
      exact fun x1 e1 => hQ _ (hR x1 e1)
theorem wmX4_forget {k k' : Nat} {t : XT}  {Q Q' : XT → Prop} (hk : k ≤ k') (hQ : (∀ (t : XT), Q t → Q' t)) (hR : wqX4_forget k t  Q) : wqX4_forget k' t  Q' := (wnX4_forget Q Q' hQ k k' hk) _ _ _ hR
set_option maxHeartbeats 4000000 in
set_option maxRecDepth 100000 in
theorem wnX11_complex (Q Q' : Int32 → XT → Prop) (hQ : (∀ (r : Int32) (t : XT), Q r t → Q' r t)) : ∀ k k' : Nat, k ≤ k' → (∀ (t : XT) (li : Nat → Int32) (lj : Nat → Int64), wpX11_complex k 0 t li lj Q → wpX11_complex k' 0 t li lj Q') := by
  intro k
  induction k with
  | zero => intro k' _; exact fun _ _ _ hR => False.elim hR
  | succ k ih =>
    intro k' hk
    cases k' with
    | zero => exact absurd hk (Nat.not_succ_le_zero k)
    | succ k' =>
      have hk := Nat.le_of_succ_le_succ hk
      have ihk := ih k' hk
      intro t li lj hR
      have hR : wbX11_complex_0 (wpX11_complex k) k t li lj Q := hR
      show wbX11_complex_0 (wpX11_complex k') k' t li lj Q'
      unfold wbX11_complex_0 at hR ⊢
      exact wmX8_read_c1 hk (fun y2_0 y2_1 h2 => fun x3 e3 => ⟨fun c1 => wmX9_build_c13 hk (fun y4_0 h4 => wmX9_all hk (fun y5_0 y5_1 h5 => wmX6_restart hk (fun y6_0 h6 => fun x7 e7 => wmX4_forget hk (fun y8_0 h8 => hQ _ _ h8) (h6 x7 e7)) h5) h4) ((h2 x3 e3).1 c1), fun c1 => fun x9 e9 => hQ _ _ (((h2 x3 e3).2 c1) x9 e9)⟩) hR
theorem wmX11_complex {k k' : Nat} {t : XT}  {Q Q' : Int32 → XT → Prop} (hk : k ≤ k') (hQ : (∀ (r : Int32) (t : XT), Q r t → Q' r t)) (hR : wqX11_complex k t  Q) : wqX11_complex k' t  Q' := (wnX11_complex Q Q' hQ k k' hk) _ _ _ hR
set_option maxHeartbeats 4000000 in
set_option maxRecDepth 100000 in
theorem wnX9_has (Q Q' : Int32 → XT → Prop) (hQ : (∀ (r : Int32) (t : XT), Q r t → Q' r t)) : ∀ k k' : Nat, k ≤ k' → (∀ (t : XT) (li : Nat → Int32) (lj : Nat → Int64), wpX9_has k 0 t li lj Q → wpX9_has k' 0 t li lj Q') ∧ (∀ (t : XT) (li : Nat → Int32) (lj : Nat → Int64), wpX9_has k 1 t li lj Q → wpX9_has k' 1 t li lj Q') := by
  intro k
  induction k with
  | zero => intro k' _; exact ⟨fun _ _ _ hR => False.elim hR, fun _ _ _ hR => False.elim hR⟩
  | succ k ih =>
    intro k' hk
    cases k' with
    | zero => exact absurd hk (Nat.not_succ_le_zero k)
    | succ k' =>
      have hk := Nat.le_of_succ_le_succ hk
      have ihk := ih k' hk
      refine ⟨?_, ?_⟩
      · intro t li lj hR
        have hR : wbX9_has_0 (wpX9_has k) k t li lj Q := hR
        show wbX9_has_0 (wpX9_has k') k' t li lj Q'
        unfold wbX9_has_0 at hR ⊢
        exact ⟨fun c2 => ihk.2 _ _ _ (hR.1 c2), fun c2 => ⟨fun c1 => ihk.2 _ _ _ ((hR.2 c2).1 c1), fun c1 => hQ _ _ ((hR.2 c2).2 c1)⟩⟩
      · intro t li lj hR
        have hR : wbX9_has_1 (wpX9_has k) k t li lj Q := hR
        show wbX9_has_1 (wpX9_has k') k' t li lj Q'
        unfold wbX9_has_1 at hR ⊢
        exact hQ _ _ hR
theorem wmX9_has {k k' : Nat} {t : XT} {a1 : Int32} {Q Q' : Int32 → XT → Prop} (hk : k ≤ k') (hQ : (∀ (r : Int32) (t : XT), Q r t → Q' r t)) (hR : wqX9_has k t a1 Q) : wqX9_has k' t a1 Q' := (wnX9_has Q Q' hQ k k' hk).1 _ _ _ hR
set_option maxHeartbeats 4000000 in
set_option maxRecDepth 100000 in
theorem wnX11_isIn (Q Q' : Int32 → Prop) (hQ : (∀ (r : Int32), Q r → Q' r)) : ∀ k k' : Nat, k ≤ k' → (∀ (li : Nat → Int32) (lj : Nat → Int64), wpX11_isIn k 0 li lj Q → wpX11_isIn k' 0 li lj Q') := by
  intro k
  induction k with
  | zero => intro k' _; exact fun _ _ hR => False.elim hR
  | succ k ih =>
    intro k' hk
    cases k' with
    | zero => exact absurd hk (Nat.not_succ_le_zero k)
    | succ k' =>
      have hk := Nat.le_of_succ_le_succ hk
      have ihk := ih k' hk
      intro li lj hR
      have hR : wbX11_isIn_0 (wpX11_isIn k) k li lj Q := hR
      show wbX11_isIn_0 (wpX11_isIn k') k' li lj Q'
      unfold wbX11_isIn_0 at hR ⊢
      exact fun x2 e2 => fun x3 e3 => fun x4 e4 => ⟨fun c1 => hQ _ ((((hR x2 e2) x3 e3) x4 e4).1 c1), fun c1 => hQ _ ((((hR x2 e2) x3 e3) x4 e4).2 c1)⟩
theorem wmX11_isIn {k k' : Nat} {a0 : Int64} {a1 : Int32} {Q Q' : Int32 → Prop} (hk : k ≤ k') (hQ : (∀ (r : Int32), Q r → Q' r)) (hR : wqX11_isIn k a0 a1 Q) : wqX11_isIn k' a0 a1 Q' := (wnX11_isIn Q Q' hQ k k' hk) _ _ hR
set_option maxHeartbeats 4000000 in
set_option maxRecDepth 100000 in
theorem wnX11_isThere (Q Q' : Int32 → XT → Prop) (hQ : (∀ (r : Int32) (t : XT), Q r t → Q' r t)) : ∀ k k' : Nat, k ≤ k' → (∀ (t : XT) (li : Nat → Int32) (lj : Nat → Int64), wpX11_isThere k 0 t li lj Q → wpX11_isThere k' 0 t li lj Q') ∧ (∀ (t : XT) (li : Nat → Int32) (lj : Nat → Int64), wpX11_isThere k 1 t li lj Q → wpX11_isThere k' 1 t li lj Q') := by
  intro k
  induction k with
  | zero => intro k' _; exact ⟨fun _ _ _ hR => False.elim hR, fun _ _ _ hR => False.elim hR⟩
  | succ k ih =>
    intro k' hk
    cases k' with
    | zero => exact absurd hk (Nat.not_succ_le_zero k)
    | succ k' =>
      have hk := Nat.le_of_succ_le_succ hk
      have ihk := ih k' hk
      refine ⟨?_, ?_⟩
      · intro t li lj hR
        have hR : wbX11_isThere_0 (wpX11_isThere k) k t li lj Q := hR
        show wbX11_isThere_0 (wpX11_isThere k') k' t li lj Q'
        unfold wbX11_isThere_0 at hR ⊢
        exact wmX9_has hk (fun y3_0 y3_1 h3 => ⟨fun c2 => ihk.2 _ _ _ (h3.1 c2), fun c2 => wmX11_isIn hk (fun y4_0 h4 => ⟨fun c1 => ihk.2 _ _ _ (h4.1 c1), fun c1 => hQ _ _ (h4.2 c1)⟩) (h3.2 c2)⟩) hR
      · intro t li lj hR
        have hR : wbX11_isThere_1 (wpX11_isThere k) k t li lj Q := hR
        show wbX11_isThere_1 (wpX11_isThere k') k' t li lj Q'
        unfold wbX11_isThere_1 at hR ⊢
        exact hQ _ _ hR
theorem wmX11_isThere {k k' : Nat} {t : XT} {a1 : Int32} {Q Q' : Int32 → XT → Prop} (hk : k ≤ k') (hQ : (∀ (r : Int32) (t : XT), Q r t → Q' r t)) (hR : wqX11_isThere k t a1 Q) : wqX11_isThere k' t a1 Q' := (wnX11_isThere Q Q' hQ k k' hk).1 _ _ _ hR
set_option maxHeartbeats 4000000 in
set_option maxRecDepth 100000 in
theorem wnX6_side (Q Q' : Int32 → XT → Prop) (hQ : (∀ (r : Int32) (t : XT), Q r t → Q' r t)) : ∀ k k' : Nat, k ≤ k' → (∀ (t : XT) (li : Nat → Int32) (lj : Nat → Int64), wpX6_side k 0 t li lj Q → wpX6_side k' 0 t li lj Q') := by
  intro k
  induction k with
  | zero => intro k' _; exact fun _ _ _ hR => False.elim hR
  | succ k ih =>
    intro k' hk
    cases k' with
    | zero => exact absurd hk (Nat.not_succ_le_zero k)
    | succ k' =>
      have hk := Nat.le_of_succ_le_succ hk
      have ihk := ih k' hk
      intro t li lj hR
      have hR : wbX6_side_0 (wpX6_side k) k t li lj Q := hR
      show wbX6_side_0 (wpX6_side k') k' t li lj Q'
      unfold wbX6_side_0 at hR ⊢
      exact ⟨hR.1, fun x3 e3 => ⟨fun c2 => wmX11_isIn hk (fun y4_0 h4 => ⟨fun c1 => hQ _ _ (h4.1 c1), fun c1 => hQ _ _ (h4.2 c1)⟩) ((hR.2 x3 e3).1 c2), fun c2 => hQ _ _ ((hR.2 x3 e3).2 c2)⟩⟩
theorem wmX6_side {k k' : Nat} {t : XT} {a1 : Int32} {Q Q' : Int32 → XT → Prop} (hk : k ≤ k') (hQ : (∀ (r : Int32) (t : XT), Q r t → Q' r t)) (hR : wqX6_side k t a1 Q) : wqX6_side k' t a1 Q' := (wnX6_side Q Q' hQ k k' hk) _ _ _ hR
set_option maxHeartbeats 4000000 in
set_option maxRecDepth 100000 in
theorem wnX6_steps (Q Q' : Int64 → XT → Prop) (hQ : (∀ (r : Int64) (t : XT), Q r t → Q' r t)) : ∀ k k' : Nat, k ≤ k' → (∀ (t : XT) (li : Nat → Int32) (lj : Nat → Int64), wpX6_steps k 0 t li lj Q → wpX6_steps k' 0 t li lj Q') := by
  intro k
  induction k with
  | zero => intro k' _; exact fun _ _ _ hR => False.elim hR
  | succ k ih =>
    intro k' hk
    cases k' with
    | zero => exact absurd hk (Nat.not_succ_le_zero k)
    | succ k' =>
      have hk := Nat.le_of_succ_le_succ hk
      have ihk := ih k' hk
      intro t li lj hR
      have hR : wbX6_steps_0 (wpX6_steps k) k t li lj Q := hR
      show wbX6_steps_0 (wpX6_steps k') k' t li lj Q'
      unfold wbX6_steps_0 at hR ⊢
      exact ⟨hR.1, fun x2 e2 => ⟨fun c1 => ⟨((hR.2 x2 e2).1 c1).1, fun x3 e3 => ⟨(((hR.2 x2 e2).1 c1).2 x3 e3).1, fun x4 e4 => fun x5 e5 => fun x6 e6 => hQ _ _ ((((((hR.2 x2 e2).1 c1).2 x3 e3).2 x4 e4) x5 e5) x6 e6)⟩⟩, fun c1 => ⟨((hR.2 x2 e2).2 c1).1, fun x7 e7 => hQ _ _ (((hR.2 x2 e2).2 c1).2 x7 e7)⟩⟩⟩
theorem wmX6_steps {k k' : Nat} {t : XT} {a1 : Int32} {Q Q' : Int64 → XT → Prop} (hk : k ≤ k') (hQ : (∀ (r : Int64) (t : XT), Q r t → Q' r t)) (hR : wqX6_steps k t a1 Q) : wqX6_steps k' t a1 Q' := (wnX6_steps Q Q' hQ k k' hk) _ _ _ hR
set_option maxHeartbeats 4000000 in
set_option maxRecDepth 100000 in
theorem wnX2_give (Q Q' : Int64 → XT → Prop) (hQ : (∀ (r : Int64) (t : XT), Q r t → Q' r t)) : ∀ k k' : Nat, k ≤ k' → (∀ (t : XT) (li : Nat → Int32) (lj : Nat → Int64), wpX2_give k 0 t li lj Q → wpX2_give k' 0 t li lj Q') ∧ (∀ (t : XT) (li : Nat → Int32) (lj : Nat → Int64), wpX2_give k 1 t li lj Q → wpX2_give k' 1 t li lj Q') ∧ (∀ (t : XT) (li : Nat → Int32) (lj : Nat → Int64), wpX2_give k 2 t li lj Q → wpX2_give k' 2 t li lj Q') ∧ (∀ (t : XT) (li : Nat → Int32) (lj : Nat → Int64), wpX2_give k 3 t li lj Q → wpX2_give k' 3 t li lj Q') := by
  intro k
  induction k with
  | zero => intro k' _; exact ⟨fun _ _ _ hR => False.elim hR, fun _ _ _ hR => False.elim hR, fun _ _ _ hR => False.elim hR, fun _ _ _ hR => False.elim hR⟩
  | succ k ih =>
    intro k' hk
    cases k' with
    | zero => exact absurd hk (Nat.not_succ_le_zero k)
    | succ k' =>
      have hk := Nat.le_of_succ_le_succ hk
      have ihk := ih k' hk
      refine ⟨?_, ?_, ?_, ?_⟩
      · intro t li lj hR
        have hR : wbX2_give_0 (wpX2_give k) k t li lj Q := hR
        show wbX2_give_0 (wpX2_give k') k' t li lj Q'
        unfold wbX2_give_0 at hR ⊢
        exact ihk.2.1 _ _ _ hR
      · intro t li lj hR
        have hR : wbX2_give_1 (wpX2_give k) k t li lj Q := hR
        show wbX2_give_1 (wpX2_give k') k' t li lj Q'
        unfold wbX2_give_1 at hR ⊢
        exact ⟨fun c4 => ihk.2.2.2 _ _ _ (hR.1 c4), fun c4 => ⟨fun c3 => ihk.2.2.2 _ _ _ ((hR.2 c4).1 c3), fun c3 => wmX11_isIn hk (fun y5_0 h5 => ⟨fun c2 => ihk.2.2.1 _ _ _ (h5.1 c2), fun c2 => wmX6_steps hk (fun y6_0 y6_1 h6 => fun x7 e7 => fun x8 e8 => ⟨fun c1 => ihk.2.2.1 _ _ _ (((h6 x7 e7) x8 e8).1 c1), fun c1 => wmX11_bit hk (fun y9_0 h9 => fun x10 e10 => ⟨(h9 x10 e10).1, fun x11 e11 => ⟨((h9 x10 e10).2 x11 e11).1, fun x12 e12 => fun x13 e13 => fun x14 e14 => ihk.2.2.1 _ _ _ (((((h9 x10 e10).2 x11 e11).2 x12 e12) x13 e13) x14 e14)⟩⟩) (((h6 x7 e7) x8 e8).2 c1)⟩) (h5.2 c2)⟩) ((hR.2 c4).2 c3)⟩⟩
      · intro t li lj hR
        have hR : wbX2_give_2 (wpX2_give k) k t li lj Q := hR
        show wbX2_give_2 (wpX2_give k') k' t li lj Q'
        unfold wbX2_give_2 at hR ⊢
        exact fun x15 e15 => ihk.2.1 _ _ _ (hR x15 e15)
      · intro t li lj hR
        have hR : wbX2_give_3 (wpX2_give k) k t li lj Q := hR
        show wbX2_give_3 (wpX2_give k') k' t li lj Q'
        unfold wbX2_give_3 at hR ⊢
        exact hQ _ _ hR
theorem wmX2_give {k k' : Nat} {t : XT} {a1 : Int32} {a2 : Int64} {Q Q' : Int64 → XT → Prop} (hk : k ≤ k') (hQ : (∀ (r : Int64) (t : XT), Q r t → Q' r t)) (hR : wqX2_give k t a1 a2 Q) : wqX2_give k' t a1 a2 Q' := (wnX2_give Q Q' hQ k k' hk).1 _ _ _ hR
set_option maxHeartbeats 4000000 in
set_option maxRecDepth 100000 in
theorem wnX2_measure (Q Q' : XT → Prop) (hQ : (∀ (t : XT), Q t → Q' t)) : ∀ k k' : Nat, k ≤ k' → (∀ (t : XT) (li : Nat → Int32) (lj : Nat → Int64), wpX2_measure k 0 t li lj Q → wpX2_measure k' 0 t li lj Q') ∧ (∀ (t : XT) (li : Nat → Int32) (lj : Nat → Int64), wpX2_measure k 1 t li lj Q → wpX2_measure k' 1 t li lj Q') := by
  intro k
  induction k with
  | zero => intro k' _; exact ⟨fun _ _ _ hR => False.elim hR, fun _ _ _ hR => False.elim hR⟩
  | succ k ih =>
    intro k' hk
    cases k' with
    | zero => exact absurd hk (Nat.not_succ_le_zero k)
    | succ k' =>
      have hk := Nat.le_of_succ_le_succ hk
      have ihk := ih k' hk
      refine ⟨?_, ?_⟩
      · intro t li lj hR
        have hR : wbX2_measure_0 (wpX2_measure k) k t li lj Q := hR
        show wbX2_measure_0 (wpX2_measure k') k' t li lj Q'
        unfold wbX2_measure_0 at hR ⊢
        exact ⟨fun c1 => fun x4 e4 => fun x5 e5 => fun x6 e6 => ihk.2 _ _ _ ((((hR.1 c1) x4 e4) x5 e5) x6 e6), fun c1 => hQ _ (hR.2 c1)⟩
      · intro t li lj hR
        have hR : wbX2_measure_1 (wpX2_measure k) k t li lj Q := hR
        show wbX2_measure_1 (wpX2_measure k') k' t li lj Q'
        unfold wbX2_measure_1 at hR ⊢
        exact ⟨fun c3 => hQ _ (hR.1 c3), fun c3 => fun x7 e7 => ⟨fun c2 => hQ _ (((hR.2 c3) x7 e7).1 c2), fun c2 => wmX2_give hk (fun y8_0 y8_1 h8 => fun x9 e9 => fun x10 e10 => fun x11 e11 => ihk.2 _ _ _ (((h8 x9 e9) x10 e10) x11 e11)) (((hR.2 c3) x7 e7).2 c2)⟩⟩
theorem wmX2_measure {k k' : Nat} {t : XT}  {Q Q' : XT → Prop} (hk : k ≤ k') (hQ : (∀ (t : XT), Q t → Q' t)) (hR : wqX2_measure k t  Q) : wqX2_measure k' t  Q' := (wnX2_measure Q Q' hQ k k' hk).1 _ _ _ hR
set_option maxHeartbeats 4000000 in
set_option maxRecDepth 100000 in
theorem wnX2_of (Q Q' : Int32 → XT → Prop) (hQ : (∀ (r : Int32) (t : XT), Q r t → Q' r t)) : ∀ k k' : Nat, k ≤ k' → (∀ (t : XT) (li : Nat → Int32) (lj : Nat → Int64), wpX2_of k 0 t li lj Q → wpX2_of k' 0 t li lj Q') := by
  intro k
  induction k with
  | zero => intro k' _; exact fun _ _ _ hR => False.elim hR
  | succ k ih =>
    intro k' hk
    cases k' with
    | zero => exact absurd hk (Nat.not_succ_le_zero k)
    | succ k' =>
      have hk := Nat.le_of_succ_le_succ hk
      have ihk := ih k' hk
      intro t li lj hR
      have hR : wbX2_of_0 (wpX2_of k) k t li lj Q := hR
      show wbX2_of_0 (wpX2_of k') k' t li lj Q'
      unfold wbX2_of_0 at hR ⊢
      exact wmX2_measure hk (fun y1_0 h1 => ⟨h1.1, fun x2 e2 => hQ _ _ (h1.2 x2 e2)⟩) hR
theorem wmX2_of {k k' : Nat} {t : XT} {a1 : Int32} {Q Q' : Int32 → XT → Prop} (hk : k ≤ k') (hQ : (∀ (r : Int32) (t : XT), Q r t → Q' r t)) (hR : wqX2_of k t a1 Q) : wqX2_of k' t a1 Q' := (wnX2_of Q Q' hQ k k' hk) _ _ _ hR
set_option maxHeartbeats 4000000 in
set_option maxRecDepth 100000 in
theorem wnJ13_bitCount_95d88 (Q Q' : Int32 → Prop) (hQ : (∀ (r : Int32), Q r → Q' r)) : ∀ k k' : Nat, k ≤ k' → (∀ (li : Nat → Int32) (lj : Nat → Int64), wpJ13_bitCount_95d88 k 0 li lj Q → wpJ13_bitCount_95d88 k' 0 li lj Q') := by
  intro k
  induction k with
  | zero => intro k' _; exact fun _ _ hR => False.elim hR
  | succ k ih =>
    intro k' hk
    cases k' with
    | zero => exact absurd hk (Nat.not_succ_le_zero k)
    | succ k' =>
      have hk := Nat.le_of_succ_le_succ hk
      have ihk := ih k' hk
      intro li lj hR
      have hR : wbJ13_bitCount_95d88_0 (wpJ13_bitCount_95d88 k) k li lj Q := hR
      show wbJ13_bitCount_95d88_0 (wpJ13_bitCount_95d88 k') k' li lj Q'
      unfold wbJ13_bitCount_95d88_0 at hR ⊢
      exact fun x1 e1 => fun x2 e2 => fun x3 e3 => fun x4 e4 => fun x5 e5 => fun x6 e6 => fun x7 e7 => fun x8 e8 => fun x9 e9 => fun x10 e10 => fun x11 e11 => fun x12 e12 => fun x13 e13 => fun x14 e14 => fun x15 e15 => fun x16 e16 => fun x17 e17 => fun x18 e18 => hQ _ ((((((((((((((((((hR x1 e1) x2 e2) x3 e3) x4 e4) x5 e5) x6 e6) x7 e7) x8 e8) x9 e9) x10 e10) x11 e11) x12 e12) x13 e13) x14 e14) x15 e15) x16 e16) x17 e17) x18 e18)
theorem wmJ13_bitCount_95d88 {k k' : Nat} {a0 : Int64} {Q Q' : Int32 → Prop} (hk : k ≤ k') (hQ : (∀ (r : Int32), Q r → Q' r)) (hR : wqJ13_bitCount_95d88 k a0 Q) : wqJ13_bitCount_95d88 k' a0 Q' := (wnJ13_bitCount_95d88 Q Q' hQ k k' hk) _ _ hR
set_option maxHeartbeats 4000000 in
set_option maxRecDepth 100000 in
theorem wnX11_simplex (Q Q' : Int32 → XT → Prop) (hQ : (∀ (r : Int32) (t : XT), Q r t → Q' r t)) : ∀ k k' : Nat, k ≤ k' → (∀ (t : XT) (li : Nat → Int32) (lj : Nat → Int64), wpX11_simplex k 0 t li lj Q → wpX11_simplex k' 0 t li lj Q') := by
  intro k
  induction k with
  | zero => intro k' _; exact fun _ _ _ hR => False.elim hR
  | succ k ih =>
    intro k' hk
    cases k' with
    | zero => exact absurd hk (Nat.not_succ_le_zero k)
    | succ k' =>
      have hk := Nat.le_of_succ_le_succ hk
      have ihk := ih k' hk
      intro t li lj hR
      have hR : wbX11_simplex_0 (wpX11_simplex k) k t li lj Q := hR
      show wbX11_simplex_0 (wpX11_simplex k') k' t li lj Q'
      unfold wbX11_simplex_0 at hR ⊢
      exact wmX9_has hk (fun y4_0 y4_1 h4 => ⟨fun c3 => ⟨fun c2 => hQ _ _ ((h4.1 c3).1 c2), fun c2 => ⟨((h4.1 c3).2.1 c2).1, fun x5 e5 => hQ _ _ (((h4.1 c3).2.1 c2).2 x5 e5)⟩, fun c2 => ⟨((h4.1 c3).2.2.1 c2).1, fun x6 e6 => hQ _ _ (((h4.1 c3).2.2.1 c2).2 x6 e6)⟩, fun c2 => wmX11_isThere hk (fun y7_0 y7_1 h7 => ⟨fun c1 => hQ _ _ (h7.1 c1), fun c1 => hQ _ _ (h7.2 c1)⟩) ((h4.1 c3).2.2.2.1 c2), fun c2 => ⟨((h4.1 c3).2.2.2.2.1 c2).1, fun x8 e8 => hQ _ _ (((h4.1 c3).2.2.2.2.1 c2).2 x8 e8)⟩, fun c2 => wmX6_side hk (fun y9_0 y9_1 h9 => hQ _ _ h9) ((h4.1 c3).2.2.2.2.2.1 c2), fun c2 => wmX2_of hk (fun y10_0 y10_1 h10 => hQ _ _ h10) ((h4.1 c3).2.2.2.2.2.2.1 c2), fun c2 => ⟨((h4.1 c3).2.2.2.2.2.2.2 c2).1, fun x11 e11 => fun x12 e12 => wmJ13_bitCount_95d88 hk (fun y13_0 h13 => hQ _ _ h13) ((((h4.1 c3).2.2.2.2.2.2.2 c2).2 x11 e11) x12 e12)⟩⟩, fun c3 => hQ _ _ (h4.2 c3)⟩) hR
theorem wmX11_simplex {k k' : Nat} {t : XT} {a1 : Int32} {a2 : Int32} {Q Q' : Int32 → XT → Prop} (hk : k ≤ k') (hQ : (∀ (r : Int32) (t : XT), Q r t → Q' r t)) (hR : wqX11_simplex k t a1 a2 Q) : wqX11_simplex k' t a1 a2 Q' := (wnX11_simplex Q Q' hQ k k' hk) _ _ _ hR
set_option maxHeartbeats 4000000 in
set_option maxRecDepth 100000 in
theorem wnX11_number (Q Q' : Int32 → XT → Prop) (hQ : (∀ (r : Int32) (t : XT), Q r t → Q' r t)) : ∀ k k' : Nat, k ≤ k' → (∀ (t : XT) (li : Nat → Int32) (lj : Nat → Int64), wpX11_number k 0 t li lj Q → wpX11_number k' 0 t li lj Q') ∧ (∀ (t : XT) (li : Nat → Int32) (lj : Nat → Int64), wpX11_number k 1 t li lj Q → wpX11_number k' 1 t li lj Q') := by
  intro k
  induction k with
  | zero => intro k' _; exact ⟨fun _ _ _ hR => False.elim hR, fun _ _ _ hR => False.elim hR⟩
  | succ k ih =>
    intro k' hk
    cases k' with
    | zero => exact absurd hk (Nat.not_succ_le_zero k)
    | succ k' =>
      have hk := Nat.le_of_succ_le_succ hk
      have ihk := ih k' hk
      refine ⟨?_, ?_⟩
      · intro t li lj hR
        have hR : wbX11_number_0 (wpX11_number k) k t li lj Q := hR
        show wbX11_number_0 (wpX11_number k') k' t li lj Q'
        unfold wbX11_number_0 at hR ⊢
        exact ⟨fun c2 => ihk.2 _ _ _ (hR.1 c2), fun c2 => ⟨fun c1 => ⟨((hR.2 c2).1 c1).1, fun x3 e3 => hQ _ _ (((hR.2 c2).1 c1).2 x3 e3)⟩, fun c1 => ihk.2 _ _ _ ((hR.2 c2).2 c1)⟩⟩
      · intro t li lj hR
        have hR : wbX11_number_1 (wpX11_number k) k t li lj Q := hR
        show wbX11_number_1 (wpX11_number k') k' t li lj Q'
        unfold wbX11_number_1 at hR ⊢
        exact hQ _ _ hR
theorem wmX11_number {k k' : Nat} {t : XT} {a1 : Int32} {Q Q' : Int32 → XT → Prop} (hk : k ≤ k') (hQ : (∀ (r : Int32) (t : XT), Q r t → Q' r t)) (hR : wqX11_number k t a1 Q) : wqX11_number k' t a1 Q' := (wnX11_number Q Q' hQ k k' hk).1 _ _ _ hR
set_option maxHeartbeats 4000000 in
set_option maxRecDepth 100000 in
theorem wnX9_signOf (Q Q' : Int32 → XT → Prop) (hQ : (∀ (r : Int32) (t : XT), Q r t → Q' r t)) : ∀ k k' : Nat, k ≤ k' → (∀ (t : XT) (li : Nat → Int32) (lj : Nat → Int64), wpX9_signOf k 0 t li lj Q → wpX9_signOf k' 0 t li lj Q') := by
  intro k
  induction k with
  | zero => intro k' _; exact fun _ _ _ hR => False.elim hR
  | succ k ih =>
    intro k' hk
    cases k' with
    | zero => exact absurd hk (Nat.not_succ_le_zero k)
    | succ k' =>
      have hk := Nat.le_of_succ_le_succ hk
      have ihk := ih k' hk
      intro t li lj hR
      have hR : wbX9_signOf_0 (wpX9_signOf k) k t li lj Q := hR
      show wbX9_signOf_0 (wpX9_signOf k') k' t li lj Q'
      unfold wbX9_signOf_0 at hR ⊢
      exact ⟨hR.1, fun x3 e3 => wmX11_isIn hk (fun y4_0 h4 => ⟨fun c2 => ⟨(h4.1 c2).1, fun x5 e5 => ⟨((h4.1 c2).2 x5 e5).1, fun x6 e6 => fun x7 e7 => fun x8 e8 => ⟨(((((h4.1 c2).2 x5 e5).2 x6 e6) x7 e7) x8 e8).1, fun x9 e9 => fun x10 e10 => fun x11 e11 => wmJ6_bitCount_0f7a4 hk (fun y12_0 h12 => fun x13 e13 => ⟨fun c1 => hQ _ _ ((h12 x13 e13).1 c1), fun c1 => hQ _ _ ((h12 x13 e13).2 c1)⟩) ((((((((h4.1 c2).2 x5 e5).2 x6 e6) x7 e7) x8 e8).2 x9 e9) x10 e10) x11 e11)⟩⟩⟩, fun c2 => hQ _ _ (h4.2 c2)⟩) (hR.2 x3 e3)⟩
theorem wmX9_signOf {k k' : Nat} {t : XT} {a1 : Int32} {a2 : Int32} {Q Q' : Int32 → XT → Prop} (hk : k ≤ k') (hQ : (∀ (r : Int32) (t : XT), Q r t → Q' r t)) (hR : wqX9_signOf k t a1 a2 Q) : wqX9_signOf k' t a1 a2 Q' := (wnX9_signOf Q Q' hQ k k' hk) _ _ _ hR
set_option maxHeartbeats 4000000 in
set_option maxRecDepth 100000 in
theorem wnX11_sign (Q Q' : Int32 → XT → Prop) (hQ : (∀ (r : Int32) (t : XT), Q r t → Q' r t)) : ∀ k k' : Nat, k ≤ k' → (∀ (t : XT) (li : Nat → Int32) (lj : Nat → Int64), wpX11_sign k 0 t li lj Q → wpX11_sign k' 0 t li lj Q') ∧ (∀ (t : XT) (li : Nat → Int32) (lj : Nat → Int64), wpX11_sign k 1 t li lj Q → wpX11_sign k' 1 t li lj Q') := by
  intro k
  induction k with
  | zero => intro k' _; exact ⟨fun _ _ _ hR => False.elim hR, fun _ _ _ hR => False.elim hR⟩
  | succ k ih =>
    intro k' hk
    cases k' with
    | zero => exact absurd hk (Nat.not_succ_le_zero k)
    | succ k' =>
      have hk := Nat.le_of_succ_le_succ hk
      have ihk := ih k' hk
      refine ⟨?_, ?_⟩
      · intro t li lj hR
        have hR : wbX11_sign_0 (wpX11_sign k) k t li lj Q := hR
        show wbX11_sign_0 (wpX11_sign k') k' t li lj Q'
        unfold wbX11_sign_0 at hR ⊢
        exact wmX9_has hk (fun y3_0 y3_1 h3 => ⟨fun c2 => ihk.2 _ _ _ (h3.1 c2), fun c2 => wmX9_has hk (fun y4_0 y4_1 h4 => ⟨fun c1 => wmX9_signOf hk (fun y5_0 y5_1 h5 => hQ _ _ h5) (h4.1 c1), fun c1 => ihk.2 _ _ _ (h4.2 c1)⟩) (h3.2 c2)⟩) hR
      · intro t li lj hR
        have hR : wbX11_sign_1 (wpX11_sign k) k t li lj Q := hR
        show wbX11_sign_1 (wpX11_sign k') k' t li lj Q'
        unfold wbX11_sign_1 at hR ⊢
        exact hQ _ _ hR
theorem wmX11_sign {k k' : Nat} {t : XT} {a1 : Int32} {a2 : Int32} {Q Q' : Int32 → XT → Prop} (hk : k ≤ k') (hQ : (∀ (r : Int32) (t : XT), Q r t → Q' r t)) (hR : wqX11_sign k t a1 a2 Q) : wqX11_sign k' t a1 a2 Q' := (wnX11_sign Q Q' hQ k k' hk).1 _ _ _ hR
set_option maxHeartbeats 4000000 in
set_option maxRecDepth 100000 in
theorem wnX6_unpaired (Q Q' : Int64 → XT → Prop) (hQ : (∀ (r : Int64) (t : XT), Q r t → Q' r t)) : ∀ k k' : Nat, k ≤ k' → (∀ (t : XT) (li : Nat → Int32) (lj : Nat → Int64), wpX6_unpaired k 0 t li lj Q → wpX6_unpaired k' 0 t li lj Q') := by
  intro k
  induction k with
  | zero => intro k' _; exact fun _ _ _ hR => False.elim hR
  | succ k ih =>
    intro k' hk
    cases k' with
    | zero => exact absurd hk (Nat.not_succ_le_zero k)
    | succ k' =>
      have hk := Nat.le_of_succ_le_succ hk
      have ihk := ih k' hk
      intro t li lj hR
      have hR : wbX6_unpaired_0 (wpX6_unpaired k) k t li lj Q := hR
      show wbX6_unpaired_0 (wpX6_unpaired k') k' t li lj Q'
      unfold wbX6_unpaired_0 at hR ⊢
      exact fun x1 e1 => fun x2 e2 => fun x3 e3 => hQ _ _ (((hR x1 e1) x2 e2) x3 e3)
theorem wmX6_unpaired {k k' : Nat} {t : XT}  {Q Q' : Int64 → XT → Prop} (hk : k ≤ k') (hQ : (∀ (r : Int64) (t : XT), Q r t → Q' r t)) (hR : wqX6_unpaired k t  Q) : wqX6_unpaired k' t  Q' := (wnX6_unpaired Q Q' hQ k k' hk) _ _ _ hR
set_option maxHeartbeats 4000000 in
set_option maxRecDepth 100000 in
theorem wnX6_isCritical (Q Q' : Int32 → XT → Prop) (hQ : (∀ (r : Int32) (t : XT), Q r t → Q' r t)) : ∀ k k' : Nat, k ≤ k' → (∀ (t : XT) (li : Nat → Int32) (lj : Nat → Int64), wpX6_isCritical k 0 t li lj Q → wpX6_isCritical k' 0 t li lj Q') := by
  intro k
  induction k with
  | zero => intro k' _; exact fun _ _ _ hR => False.elim hR
  | succ k ih =>
    intro k' hk
    cases k' with
    | zero => exact absurd hk (Nat.not_succ_le_zero k)
    | succ k' =>
      have hk := Nat.le_of_succ_le_succ hk
      have ihk := ih k' hk
      intro t li lj hR
      have hR : wbX6_isCritical_0 (wpX6_isCritical k) k t li lj Q := hR
      show wbX6_isCritical_0 (wpX6_isCritical k') k' t li lj Q'
      unfold wbX6_isCritical_0 at hR ⊢
      exact wmX6_unpaired hk (fun y1_0 y1_1 h1 => wmX11_isIn hk (fun y2_0 h2 => ⟨h2.1, hQ _ _ h2.2⟩) h1) hR
theorem wmX6_isCritical {k k' : Nat} {t : XT} {a1 : Int32} {Q Q' : Int32 → XT → Prop} (hk : k ≤ k') (hQ : (∀ (r : Int32) (t : XT), Q r t → Q' r t)) (hR : wqX6_isCritical k t a1 Q) : wqX6_isCritical k' t a1 Q' := (wnX6_isCritical Q Q' hQ k k' hk) _ _ _ hR
