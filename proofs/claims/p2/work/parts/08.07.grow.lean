set_option maxHeartbeats 4000000 in
set_option maxRecDepth 100000 in
theorem wnJ9_floorMod_f86c9 (Q Q' : Int64 → Prop) (hQ : (∀ (r : Int64), Q r → Q' r)) : ∀ k k' : Nat, k ≤ k' → (∀ (li : Nat → Int32) (lj : Nat → Int64), wpJ9_floorMod_f86c9 k 0 li lj Q → wpJ9_floorMod_f86c9 k' 0 li lj Q') ∧ (∀ (li : Nat → Int32) (lj : Nat → Int64), wpJ9_floorMod_f86c9 k 1 li lj Q → wpJ9_floorMod_f86c9 k' 1 li lj Q') := by
  intro k
  induction k with
  | zero => intro k' _; exact ⟨fun _ _ hR => False.elim hR, fun _ _ hR => False.elim hR⟩
  | succ k ih =>
    intro k' hk
    cases k' with
    | zero => exact absurd hk (Nat.not_succ_le_zero k)
    | succ k' =>
      have hk := Nat.le_of_succ_le_succ hk
      have ihk := ih k' hk
      refine ⟨?_, ?_⟩
      · intro li lj hR
        have hR : wbJ9_floorMod_f86c9_0 (wpJ9_floorMod_f86c9 k) k li lj Q := hR
        show wbJ9_floorMod_f86c9_0 (wpJ9_floorMod_f86c9 k') k' li lj Q'
        unfold wbJ9_floorMod_f86c9_0 at hR ⊢
        exact ⟨hR.1, fun x3 e3 => fun x4 e4 => fun x5 e5 => ⟨fun c2 => ihk.2 _ _ ((((hR.2 x3 e3) x4 e4) x5 e5).1 c2), fun c2 => fun x6 e6 => ⟨fun c1 => ihk.2 _ _ ((((((hR.2 x3 e3) x4 e4) x5 e5).2 c2) x6 e6).1 c1), fun c1 => fun x7 e7 => hQ _ (((((((hR.2 x3 e3) x4 e4) x5 e5).2 c2) x6 e6).2 c1) x7 e7)⟩⟩⟩
      · intro li lj hR
        have hR : wbJ9_floorMod_f86c9_1 (wpJ9_floorMod_f86c9 k) k li lj Q := hR
        show wbJ9_floorMod_f86c9_1 (wpJ9_floorMod_f86c9 k') k' li lj Q'
        unfold wbJ9_floorMod_f86c9_1 at hR ⊢
        exact hQ _ hR
theorem wmJ9_floorMod_f86c9 {k k' : Nat} {a0 : Int64} {a1 : Int64} {Q Q' : Int64 → Prop} (hk : k ≤ k') (hQ : (∀ (r : Int64), Q r → Q' r)) (hR : wqJ9_floorMod_f86c9 k a0 a1 Q) : wqJ9_floorMod_f86c9 k' a0 a1 Q' := (wnJ9_floorMod_f86c9 Q Q' hQ k k' hk).1 _ _ hR
set_option maxHeartbeats 4000000 in
set_option maxRecDepth 100000 in
theorem wnX5_remainder (Q Q' : Int64 → XT → Prop) (hQ : (∀ (r : Int64) (t : XT), Q r t → Q' r t)) : ∀ k k' : Nat, k ≤ k' → (∀ (t : XT) (li : Nat → Int32) (lj : Nat → Int64), wpX5_remainder k 0 t li lj Q → wpX5_remainder k' 0 t li lj Q') := by
  intro k
  induction k with
  | zero => intro k' _; exact fun _ _ _ hR => False.elim hR
  | succ k ih =>
    intro k' hk
    cases k' with
    | zero => exact absurd hk (Nat.not_succ_le_zero k)
    | succ k' =>
      have hk := Nat.le_of_succ_le_succ hk
      have ihk := ih k' hk
      intro t li lj hR
      have hR : wbX5_remainder_0 (wpX5_remainder k) k t li lj Q := hR
      show wbX5_remainder_0 (wpX5_remainder k') k' t li lj Q'
      unfold wbX5_remainder_0 at hR ⊢
      exact fun x3 e3 => ⟨fun c2 => wmJ9_floorMod_f86c9 hk (fun y4_0 h4 => fun x5 e5 => fun x6 e6 => ⟨fun c1 => hQ _ _ (((h4 x5 e5) x6 e6).1 c1), fun c1 => fun x7 e7 => hQ _ _ ((((h4 x5 e5) x6 e6).2 c1) x7 e7)⟩) ((hR x3 e3).1 c2), fun c2 => hQ _ _ ((hR x3 e3).2 c2)⟩
theorem wmX5_remainder {k k' : Nat} {t : XT} {a1 : Int64} {Q Q' : Int64 → XT → Prop} (hk : k ≤ k') (hQ : (∀ (r : Int64) (t : XT), Q r t → Q' r t)) (hR : wqX5_remainder k t a1 Q) : wqX5_remainder k' t a1 Q' := (wnX5_remainder Q Q' hQ k k' hk) _ _ _ hR
set_option maxHeartbeats 4000000 in
set_option maxRecDepth 100000 in
theorem wnX5_leastCell (Q Q' : Int32 → XT → Prop) (hQ : (∀ (r : Int32) (t : XT), Q r t → Q' r t)) : ∀ k k' : Nat, k ≤ k' → (∀ (t : XT) (li : Nat → Int32) (lj : Nat → Int64), wpX5_leastCell k 0 t li lj Q → wpX5_leastCell k' 0 t li lj Q') ∧ (∀ (t : XT) (li : Nat → Int32) (lj : Nat → Int64), wpX5_leastCell k 1 t li lj Q → wpX5_leastCell k' 1 t li lj Q') ∧ (∀ (t : XT) (li : Nat → Int32) (lj : Nat → Int64), wpX5_leastCell k 2 t li lj Q → wpX5_leastCell k' 2 t li lj Q') ∧ (∀ (t : XT) (li : Nat → Int32) (lj : Nat → Int64), wpX5_leastCell k 3 t li lj Q → wpX5_leastCell k' 3 t li lj Q') ∧ (∀ (t : XT) (li : Nat → Int32) (lj : Nat → Int64), wpX5_leastCell k 4 t li lj Q → wpX5_leastCell k' 4 t li lj Q') ∧ (∀ (t : XT) (li : Nat → Int32) (lj : Nat → Int64), wpX5_leastCell k 5 t li lj Q → wpX5_leastCell k' 5 t li lj Q') := by
  intro k
  induction k with
  | zero => intro k' _; exact ⟨fun _ _ _ hR => False.elim hR, fun _ _ _ hR => False.elim hR, fun _ _ _ hR => False.elim hR, fun _ _ _ hR => False.elim hR, fun _ _ _ hR => False.elim hR, fun _ _ _ hR => False.elim hR⟩
  | succ k ih =>
    intro k' hk
    cases k' with
    | zero => exact absurd hk (Nat.not_succ_le_zero k)
    | succ k' =>
      have hk := Nat.le_of_succ_le_succ hk
      have ihk := ih k' hk
      refine ⟨?_, ?_, ?_, ?_, ?_, ?_⟩
      · intro t li lj hR
        have hR : wbX5_leastCell_0 (wpX5_leastCell k) k t li lj Q := hR
        show wbX5_leastCell_0 (wpX5_leastCell k') k' t li lj Q'
        unfold wbX5_leastCell_0 at hR ⊢
        exact ihk.2.1 _ _ _ hR
      · intro t li lj hR
        have hR : wbX5_leastCell_1 (wpX5_leastCell k) k t li lj Q := hR
        show wbX5_leastCell_1 (wpX5_leastCell k') k' t li lj Q'
        unfold wbX5_leastCell_1 at hR ⊢
        exact ⟨fun c1 => hQ _ _ (hR.1 c1), fun c1 => ihk.2.2.1 _ _ _ (hR.2 c1)⟩
      · intro t li lj hR
        have hR : wbX5_leastCell_2 (wpX5_leastCell k) k t li lj Q := hR
        show wbX5_leastCell_2 (wpX5_leastCell k') k' t li lj Q'
        unfold wbX5_leastCell_2 at hR ⊢
        exact ⟨fun c4 => fun x7 e7 => ihk.2.1 _ _ _ ((hR.1 c4) x7 e7), fun c4 => fun x8 e8 => fun x9 e9 => ⟨fun c3 => ihk.2.2.2.1 _ _ _ ((((hR.2 c4) x8 e8) x9 e9).1 c3), fun c3 => ⟨((((hR.2 c4) x8 e8) x9 e9).2 c3).1, fun x10 e10 => fun x11 e11 => ⟨((((((hR.2 c4) x8 e8) x9 e9).2 c3).2 x10 e10) x11 e11).1, fun x12 e12 => fun x13 e13 => fun x14 e14 => ⟨fun c2 => ihk.2.2.2.2.1 _ _ _ ((((((((((hR.2 c4) x8 e8) x9 e9).2 c3).2 x10 e10) x11 e11).2 x12 e12) x13 e13) x14 e14).1 c2), fun c2 => ihk.2.2.2.1 _ _ _ ((((((((((hR.2 c4) x8 e8) x9 e9).2 c3).2 x10 e10) x11 e11).2 x12 e12) x13 e13) x14 e14).2 c2)⟩⟩⟩⟩⟩
      · intro t li lj hR
        have hR : wbX5_leastCell_3 (wpX5_leastCell k) k t li lj Q := hR
        show wbX5_leastCell_3 (wpX5_leastCell k') k' t li lj Q'
        unfold wbX5_leastCell_3 at hR ⊢
        exact ihk.2.2.2.2.1 _ _ _ hR
      · intro t li lj hR
        have hR : wbX5_leastCell_4 (wpX5_leastCell k) k t li lj Q := hR
        show wbX5_leastCell_4 (wpX5_leastCell k') k' t li lj Q'
        unfold wbX5_leastCell_4 at hR ⊢
        exact ⟨hR.1, fun x15 e15 => fun x16 e16 => ⟨fun c6 => ihk.2.2.2.2.2 _ _ _ (((hR.2 x15 e15) x16 e16).1 c6), fun c6 => ⟨fun c5 => ihk.2.2.2.2.2 _ _ _ ((((hR.2 x15 e15) x16 e16).2 c6).1 c5), fun c5 => ihk.2.2.2.2.2 _ _ _ ((((hR.2 x15 e15) x16 e16).2 c6).2 c5)⟩⟩⟩
      · intro t li lj hR
        have hR : wbX5_leastCell_5 (wpX5_leastCell k) k t li lj Q := hR
        show wbX5_leastCell_5 (wpX5_leastCell k') k' t li lj Q'
        unfold wbX5_leastCell_5 at hR ⊢
        exact fun x17 e17 => ihk.2.2.1 _ _ _ (hR x17 e17)
theorem wmX5_leastCell {k k' : Nat} {t : XT} {a1 : Int32} {Q Q' : Int32 → XT → Prop} (hk : k ≤ k') (hQ : (∀ (r : Int32) (t : XT), Q r t → Q' r t)) (hR : wqX5_leastCell k t a1 Q) : wqX5_leastCell k' t a1 Q' := (wnX5_leastCell Q Q' hQ k k' hk).1 _ _ _ hR
set_option maxHeartbeats 4000000 in
set_option maxRecDepth 100000 in
theorem wnX5_swapRows_c30 (Q Q' : XT → Prop) (hQ : (∀ (t : XT), Q t → Q' t)) : ∀ k k' : Nat, k ≤ k' → (∀ (t : XT) (li : Nat → Int32) (lj : Nat → Int64), wpX5_swapRows_c30 k 0 t li lj Q → wpX5_swapRows_c30 k' 0 t li lj Q') ∧ (∀ (t : XT) (li : Nat → Int32) (lj : Nat → Int64), wpX5_swapRows_c30 k 1 t li lj Q → wpX5_swapRows_c30 k' 1 t li lj Q') := by
  intro k
  induction k with
  | zero => intro k' _; exact ⟨fun _ _ _ hR => False.elim hR, fun _ _ _ hR => False.elim hR⟩
  | succ k ih =>
    intro k' hk
    cases k' with
    | zero => exact absurd hk (Nat.not_succ_le_zero k)
    | succ k' =>
      have hk := Nat.le_of_succ_le_succ hk
      have ihk := ih k' hk
      refine ⟨?_, ?_⟩
      · intro t li lj hR
        have hR : wbX5_swapRows_c30_0 (wpX5_swapRows_c30 k) k t li lj Q := hR
        show wbX5_swapRows_c30_0 (wpX5_swapRows_c30 k') k' t li lj Q'
        unfold wbX5_swapRows_c30_0 at hR ⊢
        exact ihk.2 _ _ _ hR
      · intro t li lj hR
        have hR : wbX5_swapRows_c30_1 (wpX5_swapRows_c30 k) k t li lj Q := hR
        show wbX5_swapRows_c30_1 (wpX5_swapRows_c30 k') k' t li lj Q'
        unfold wbX5_swapRows_c30_1 at hR ⊢
        exact ⟨fun c2 => hQ _ (hR.1 c2), fun c2 => ⟨fun c1 => hQ _ ((hR.2 c2).1 c1), fun c1 => fun x3 e3 => fun x4 e4 => ⟨((((hR.2 c2).2 c1) x3 e3) x4 e4).1, fun x5 e5 => fun x6 e6 => fun x7 e7 => fun x8 e8 => fun x9 e9 => ⟨(((((((((hR.2 c2).2 c1) x3 e3) x4 e4).2 x5 e5) x6 e6) x7 e7) x8 e8) x9 e9).1, fun x10 e10 => ⟨((((((((((hR.2 c2).2 c1) x3 e3) x4 e4).2 x5 e5) x6 e6) x7 e7) x8 e8) x9 e9).2 x10 e10).1, fun x11 e11 => fun x12 e12 => fun x13 e13 => ⟨(((((((((((((hR.2 c2).2 c1) x3 e3) x4 e4).2 x5 e5) x6 e6) x7 e7) x8 e8) x9 e9).2 x10 e10).2 x11 e11) x12 e12) x13 e13).1, fun x14 e14 => fun x15 e15 => ihk.2 _ _ _ (((((((((((((((hR.2 c2).2 c1) x3 e3) x4 e4).2 x5 e5) x6 e6) x7 e7) x8 e8) x9 e9).2 x10 e10).2 x11 e11) x12 e12) x13 e13).2 x14 e14) x15 e15)⟩⟩⟩⟩⟩⟩
theorem wmX5_swapRows_c30 {k k' : Nat} {t : XT} {a2 : Int32} {a3 : Int32} {Q Q' : XT → Prop} (hk : k ≤ k') (hQ : (∀ (t : XT), Q t → Q' t)) (hR : wqX5_swapRows_c30 k t a2 a3 Q) : wqX5_swapRows_c30 k' t a2 a3 Q' := (wnX5_swapRows_c30 Q Q' hQ k k' hk).1 _ _ _ hR
set_option maxHeartbeats 4000000 in
set_option maxRecDepth 100000 in
theorem wnX5_swapColumns (Q Q' : XT → Prop) (hQ : (∀ (t : XT), Q t → Q' t)) : ∀ k k' : Nat, k ≤ k' → (∀ (t : XT) (li : Nat → Int32) (lj : Nat → Int64), wpX5_swapColumns k 0 t li lj Q → wpX5_swapColumns k' 0 t li lj Q') ∧ (∀ (t : XT) (li : Nat → Int32) (lj : Nat → Int64), wpX5_swapColumns k 1 t li lj Q → wpX5_swapColumns k' 1 t li lj Q') := by
  intro k
  induction k with
  | zero => intro k' _; exact ⟨fun _ _ _ hR => False.elim hR, fun _ _ _ hR => False.elim hR⟩
  | succ k ih =>
    intro k' hk
    cases k' with
    | zero => exact absurd hk (Nat.not_succ_le_zero k)
    | succ k' =>
      have hk := Nat.le_of_succ_le_succ hk
      have ihk := ih k' hk
      refine ⟨?_, ?_⟩
      · intro t li lj hR
        have hR : wbX5_swapColumns_0 (wpX5_swapColumns k) k t li lj Q := hR
        show wbX5_swapColumns_0 (wpX5_swapColumns k') k' t li lj Q'
        unfold wbX5_swapColumns_0 at hR ⊢
        exact ihk.2 _ _ _ hR
      · intro t li lj hR
        have hR : wbX5_swapColumns_1 (wpX5_swapColumns k) k t li lj Q := hR
        show wbX5_swapColumns_1 (wpX5_swapColumns k') k' t li lj Q'
        unfold wbX5_swapColumns_1 at hR ⊢
        exact ⟨fun c2 => hQ _ (hR.1 c2), fun c2 => ⟨fun c1 => hQ _ ((hR.2 c2).1 c1), fun c1 => fun x3 e3 => fun x4 e4 => ⟨((((hR.2 c2).2 c1) x3 e3) x4 e4).1, fun x5 e5 => fun x6 e6 => fun x7 e7 => fun x8 e8 => fun x9 e9 => ⟨(((((((((hR.2 c2).2 c1) x3 e3) x4 e4).2 x5 e5) x6 e6) x7 e7) x8 e8) x9 e9).1, fun x10 e10 => ⟨((((((((((hR.2 c2).2 c1) x3 e3) x4 e4).2 x5 e5) x6 e6) x7 e7) x8 e8) x9 e9).2 x10 e10).1, fun x11 e11 => fun x12 e12 => fun x13 e13 => ⟨(((((((((((((hR.2 c2).2 c1) x3 e3) x4 e4).2 x5 e5) x6 e6) x7 e7) x8 e8) x9 e9).2 x10 e10).2 x11 e11) x12 e12) x13 e13).1, fun x14 e14 => fun x15 e15 => ihk.2 _ _ _ (((((((((((((((hR.2 c2).2 c1) x3 e3) x4 e4).2 x5 e5) x6 e6) x7 e7) x8 e8) x9 e9).2 x10 e10).2 x11 e11) x12 e12) x13 e13).2 x14 e14) x15 e15)⟩⟩⟩⟩⟩⟩
theorem wmX5_swapColumns {k k' : Nat} {t : XT} {a1 : Int32} {a2 : Int32} {Q Q' : XT → Prop} (hk : k ≤ k') (hQ : (∀ (t : XT), Q t → Q' t)) (hR : wqX5_swapColumns k t a1 a2 Q) : wqX5_swapColumns k' t a1 a2 Q' := (wnX5_swapColumns Q Q' hQ k k' hk).1 _ _ _ hR
set_option maxHeartbeats 4000000 in
set_option maxRecDepth 100000 in
theorem wnJ9_floorDiv_f86c9 (Q Q' : Int64 → Prop) (hQ : (∀ (r : Int64), Q r → Q' r)) : ∀ k k' : Nat, k ≤ k' → (∀ (li : Nat → Int32) (lj : Nat → Int64), wpJ9_floorDiv_f86c9 k 0 li lj Q → wpJ9_floorDiv_f86c9 k' 0 li lj Q') ∧ (∀ (li : Nat → Int32) (lj : Nat → Int64), wpJ9_floorDiv_f86c9 k 1 li lj Q → wpJ9_floorDiv_f86c9 k' 1 li lj Q') := by
  intro k
  induction k with
  | zero => intro k' _; exact ⟨fun _ _ hR => False.elim hR, fun _ _ hR => False.elim hR⟩
  | succ k ih =>
    intro k' hk
    cases k' with
    | zero => exact absurd hk (Nat.not_succ_le_zero k)
    | succ k' =>
      have hk := Nat.le_of_succ_le_succ hk
      have ihk := ih k' hk
      refine ⟨?_, ?_⟩
      · intro li lj hR
        have hR : wbJ9_floorDiv_f86c9_0 (wpJ9_floorDiv_f86c9 k) k li lj Q := hR
        show wbJ9_floorDiv_f86c9_0 (wpJ9_floorDiv_f86c9 k') k' li lj Q'
        unfold wbJ9_floorDiv_f86c9_0 at hR ⊢
        exact ⟨hR.1, fun x3 e3 => fun x4 e4 => fun x5 e5 => ⟨fun c2 => ihk.2 _ _ ((((hR.2 x3 e3) x4 e4) x5 e5).1 c2), fun c2 => fun x6 e6 => fun x7 e7 => ⟨fun c1 => ihk.2 _ _ (((((((hR.2 x3 e3) x4 e4) x5 e5).2 c2) x6 e6) x7 e7).1 c1), fun c1 => fun x8 e8 => hQ _ ((((((((hR.2 x3 e3) x4 e4) x5 e5).2 c2) x6 e6) x7 e7).2 c1) x8 e8)⟩⟩⟩
      · intro li lj hR
        have hR : wbJ9_floorDiv_f86c9_1 (wpJ9_floorDiv_f86c9 k) k li lj Q := hR
        show wbJ9_floorDiv_f86c9_1 (wpJ9_floorDiv_f86c9 k') k' li lj Q'
        unfold wbJ9_floorDiv_f86c9_1 at hR ⊢
        exact hQ _ hR
theorem wmJ9_floorDiv_f86c9 {k k' : Nat} {a0 : Int64} {a1 : Int64} {Q Q' : Int64 → Prop} (hk : k ≤ k') (hQ : (∀ (r : Int64), Q r → Q' r)) (hR : wqJ9_floorDiv_f86c9 k a0 a1 Q) : wqJ9_floorDiv_f86c9 k' a0 a1 Q' := (wnJ9_floorDiv_f86c9 Q Q' hQ k k' hk).1 _ _ hR
set_option maxHeartbeats 4000000 in
set_option maxRecDepth 100000 in
theorem wnX5_nearest (Q Q' : Int64 → Prop) (hQ : (∀ (r : Int64), Q r → Q' r)) : ∀ k k' : Nat, k ≤ k' → (∀ (li : Nat → Int32) (lj : Nat → Int64), wpX5_nearest k 0 li lj Q → wpX5_nearest k' 0 li lj Q') := by
  intro k
  induction k with
  | zero => intro k' _; exact fun _ _ hR => False.elim hR
  | succ k ih =>
    intro k' hk
    cases k' with
    | zero => exact absurd hk (Nat.not_succ_le_zero k)
    | succ k' =>
      have hk := Nat.le_of_succ_le_succ hk
      have ihk := ih k' hk
      intro li lj hR
      have hR : wbX5_nearest_0 (wpX5_nearest k) k li lj Q := hR
      show wbX5_nearest_0 (wpX5_nearest k') k' li lj Q'
      unfold wbX5_nearest_0 at hR ⊢
      exact fun x3 e3 => ⟨fun c2 => fun x4 e4 => fun x5 e5 => fun x6 e6 => fun x7 e7 => wmJ9_floorDiv_f86c9 hk (fun y8_0 h8 => fun x9 e9 => ⟨fun c1 => hQ _ ((h8 x9 e9).1 c1), fun c1 => fun x10 e10 => hQ _ (((h8 x9 e9).2 c1) x10 e10)⟩) ((((((hR x3 e3).1 c2) x4 e4) x5 e5) x6 e6) x7 e7), fun c2 => hQ _ ((hR x3 e3).2 c2)⟩
theorem wmX5_nearest {k k' : Nat} {a0 : Int64} {a1 : Int64} {Q Q' : Int64 → Prop} (hk : k ≤ k') (hQ : (∀ (r : Int64), Q r → Q' r)) (hR : wqX5_nearest k a0 a1 Q) : wqX5_nearest k' a0 a1 Q' := (wnX5_nearest Q Q' hQ k k' hk) _ _ hR
set_option maxHeartbeats 4000000 in
set_option maxRecDepth 100000 in
theorem wnX5_reduceRows (Q Q' : Int32 → XT → Prop) (hQ : (∀ (r : Int32) (t : XT), Q r t → Q' r t)) : ∀ k k' : Nat, k ≤ k' → (∀ (t : XT) (li : Nat → Int32) (lj : Nat → Int64), wpX5_reduceRows k 0 t li lj Q → wpX5_reduceRows k' 0 t li lj Q') ∧ (∀ (t : XT) (li : Nat → Int32) (lj : Nat → Int64), wpX5_reduceRows k 1 t li lj Q → wpX5_reduceRows k' 1 t li lj Q') ∧ (∀ (t : XT) (li : Nat → Int32) (lj : Nat → Int64), wpX5_reduceRows k 2 t li lj Q → wpX5_reduceRows k' 2 t li lj Q') ∧ (∀ (t : XT) (li : Nat → Int32) (lj : Nat → Int64), wpX5_reduceRows k 3 t li lj Q → wpX5_reduceRows k' 3 t li lj Q') ∧ (∀ (t : XT) (li : Nat → Int32) (lj : Nat → Int64), wpX5_reduceRows k 4 t li lj Q → wpX5_reduceRows k' 4 t li lj Q') ∧ (∀ (t : XT) (li : Nat → Int32) (lj : Nat → Int64), wpX5_reduceRows k 5 t li lj Q → wpX5_reduceRows k' 5 t li lj Q') := by
  intro k
  induction k with
  | zero => intro k' _; exact ⟨fun _ _ _ hR => False.elim hR, fun _ _ _ hR => False.elim hR, fun _ _ _ hR => False.elim hR, fun _ _ _ hR => False.elim hR, fun _ _ _ hR => False.elim hR, fun _ _ _ hR => False.elim hR⟩
  | succ k ih =>
    intro k' hk
    cases k' with
    | zero => exact absurd hk (Nat.not_succ_le_zero k)
    | succ k' =>
      have hk := Nat.le_of_succ_le_succ hk
      have ihk := ih k' hk
      refine ⟨?_, ?_, ?_, ?_, ?_, ?_⟩
      · intro t li lj hR
        have hR : wbX5_reduceRows_0 (wpX5_reduceRows k) k t li lj Q := hR
        show wbX5_reduceRows_0 (wpX5_reduceRows k') k' t li lj Q'
        unfold wbX5_reduceRows_0 at hR ⊢
        exact fun x6 e6 => ihk.2.1 _ _ _ (hR x6 e6)
      · intro t li lj hR
        have hR : wbX5_reduceRows_1 (wpX5_reduceRows k) k t li lj Q := hR
        show wbX5_reduceRows_1 (wpX5_reduceRows k') k' t li lj Q'
        unfold wbX5_reduceRows_1 at hR ⊢
        exact ⟨fun c1 => ⟨(hR.1 c1).1, hQ _ _ (hR.1 c1).2⟩, fun c1 => fun x8 e8 => fun x9 e9 => ⟨(((hR.2 c1) x8 e8) x9 e9).1, fun x10 e10 => fun x11 e11 => fun x12 e12 => ⟨((((((hR.2 c1) x8 e8) x9 e9).2 x10 e10) x11 e11) x12 e12).1, fun x13 e13 => wmX5_nearest hk (fun y14_0 h14 => ihk.2.2.1 _ _ _ h14) (((((((hR.2 c1) x8 e8) x9 e9).2 x10 e10) x11 e11) x12 e12).2 x13 e13)⟩⟩⟩
      · intro t li lj hR
        have hR : wbX5_reduceRows_2 (wpX5_reduceRows k) k t li lj Q := hR
        show wbX5_reduceRows_2 (wpX5_reduceRows k') k' t li lj Q'
        unfold wbX5_reduceRows_2 at hR ⊢
        exact ⟨fun c3 => ihk.2.2.2.1 _ _ _ (hR.1 c3), fun c3 => fun x15 e15 => ⟨fun c2 => ihk.2.2.2.1 _ _ _ (((hR.2 c3) x15 e15).1 c2), fun c2 => fun x16 e16 => fun x17 e17 => ⟨(((((hR.2 c3) x15 e15).2 c2) x16 e16) x17 e17).1, fun x18 e18 => fun x19 e19 => fun x20 e20 => ⟨((((((((hR.2 c3) x15 e15).2 c2) x16 e16) x17 e17).2 x18 e18) x19 e19) x20 e20).1, fun x21 e21 => fun x22 e22 => fun x23 e23 => wmX5_remainder hk (fun y24_0 y24_1 h24 => ⟨h24.1, fun x25 e25 => fun x26 e26 => ihk.2.2.1 _ _ _ ((h24.2 x25 e25) x26 e26)⟩) (((((((((((hR.2 c3) x15 e15).2 c2) x16 e16) x17 e17).2 x18 e18) x19 e19) x20 e20).2 x21 e21) x22 e22) x23 e23)⟩⟩⟩⟩
      · intro t li lj hR
        have hR : wbX5_reduceRows_3 (wpX5_reduceRows k) k t li lj Q := hR
        show wbX5_reduceRows_3 (wpX5_reduceRows k') k' t li lj Q'
        unfold wbX5_reduceRows_3 at hR ⊢
        exact ⟨fun c5 => ihk.2.2.2.2.1 _ _ _ (hR.1 c5), fun c5 => fun x27 e27 => fun x28 e28 => ⟨(((hR.2 c5) x27 e27) x28 e28).1, fun x29 e29 => fun x30 e30 => ⟨fun c4 => ihk.2.2.2.2.1 _ _ _ ((((((hR.2 c5) x27 e27) x28 e28).2 x29 e29) x30 e30).1 c4), fun c4 => ihk.2.2.2.2.2 _ _ _ ((((((hR.2 c5) x27 e27) x28 e28).2 x29 e29) x30 e30).2 c4)⟩⟩⟩
      · intro t li lj hR
        have hR : wbX5_reduceRows_4 (wpX5_reduceRows k) k t li lj Q := hR
        show wbX5_reduceRows_4 (wpX5_reduceRows k') k' t li lj Q'
        unfold wbX5_reduceRows_4 at hR ⊢
        exact ihk.2.2.2.2.2 _ _ _ hR
      · intro t li lj hR
        have hR : wbX5_reduceRows_5 (wpX5_reduceRows k) k t li lj Q := hR
        show wbX5_reduceRows_5 (wpX5_reduceRows k') k' t li lj Q'
        unfold wbX5_reduceRows_5 at hR ⊢
        exact fun x31 e31 => ihk.2.1 _ _ _ (hR x31 e31)
theorem wmX5_reduceRows {k k' : Nat} {t : XT} {a1 : Int32} {Q Q' : Int32 → XT → Prop} (hk : k ≤ k') (hQ : (∀ (r : Int32) (t : XT), Q r t → Q' r t)) (hR : wqX5_reduceRows k t a1 Q) : wqX5_reduceRows k' t a1 Q' := (wnX5_reduceRows Q Q' hQ k k' hk).1 _ _ _ hR
set_option maxHeartbeats 4000000 in
set_option maxRecDepth 100000 in
theorem wnX5_reduceColumns (Q Q' : Int32 → XT → Prop) (hQ : (∀ (r : Int32) (t : XT), Q r t → Q' r t)) : ∀ k k' : Nat, k ≤ k' → (∀ (t : XT) (li : Nat → Int32) (lj : Nat → Int64), wpX5_reduceColumns k 0 t li lj Q → wpX5_reduceColumns k' 0 t li lj Q') ∧ (∀ (t : XT) (li : Nat → Int32) (lj : Nat → Int64), wpX5_reduceColumns k 1 t li lj Q → wpX5_reduceColumns k' 1 t li lj Q') ∧ (∀ (t : XT) (li : Nat → Int32) (lj : Nat → Int64), wpX5_reduceColumns k 2 t li lj Q → wpX5_reduceColumns k' 2 t li lj Q') ∧ (∀ (t : XT) (li : Nat → Int32) (lj : Nat → Int64), wpX5_reduceColumns k 3 t li lj Q → wpX5_reduceColumns k' 3 t li lj Q') ∧ (∀ (t : XT) (li : Nat → Int32) (lj : Nat → Int64), wpX5_reduceColumns k 4 t li lj Q → wpX5_reduceColumns k' 4 t li lj Q') ∧ (∀ (t : XT) (li : Nat → Int32) (lj : Nat → Int64), wpX5_reduceColumns k 5 t li lj Q → wpX5_reduceColumns k' 5 t li lj Q') := by
  intro k
  induction k with
  | zero => intro k' _; exact ⟨fun _ _ _ hR => False.elim hR, fun _ _ _ hR => False.elim hR, fun _ _ _ hR => False.elim hR, fun _ _ _ hR => False.elim hR, fun _ _ _ hR => False.elim hR, fun _ _ _ hR => False.elim hR⟩
  | succ k ih =>
    intro k' hk
    cases k' with
    | zero => exact absurd hk (Nat.not_succ_le_zero k)
    | succ k' =>
      have hk := Nat.le_of_succ_le_succ hk
      have ihk := ih k' hk
      refine ⟨?_, ?_, ?_, ?_, ?_, ?_⟩
      · intro t li lj hR
        have hR : wbX5_reduceColumns_0 (wpX5_reduceColumns k) k t li lj Q := hR
        show wbX5_reduceColumns_0 (wpX5_reduceColumns k') k' t li lj Q'
        unfold wbX5_reduceColumns_0 at hR ⊢
        exact fun x6 e6 => ihk.2.1 _ _ _ (hR x6 e6)
      · intro t li lj hR
        have hR : wbX5_reduceColumns_1 (wpX5_reduceColumns k) k t li lj Q := hR
        show wbX5_reduceColumns_1 (wpX5_reduceColumns k') k' t li lj Q'
        unfold wbX5_reduceColumns_1 at hR ⊢
        exact ⟨fun c1 => ⟨(hR.1 c1).1, hQ _ _ (hR.1 c1).2⟩, fun c1 => fun x8 e8 => fun x9 e9 => ⟨(((hR.2 c1) x8 e8) x9 e9).1, fun x10 e10 => fun x11 e11 => fun x12 e12 => ⟨((((((hR.2 c1) x8 e8) x9 e9).2 x10 e10) x11 e11) x12 e12).1, fun x13 e13 => wmX5_nearest hk (fun y14_0 h14 => ihk.2.2.1 _ _ _ h14) (((((((hR.2 c1) x8 e8) x9 e9).2 x10 e10) x11 e11) x12 e12).2 x13 e13)⟩⟩⟩
      · intro t li lj hR
        have hR : wbX5_reduceColumns_2 (wpX5_reduceColumns k) k t li lj Q := hR
        show wbX5_reduceColumns_2 (wpX5_reduceColumns k') k' t li lj Q'
        unfold wbX5_reduceColumns_2 at hR ⊢
        exact ⟨fun c3 => ihk.2.2.2.1 _ _ _ (hR.1 c3), fun c3 => fun x15 e15 => ⟨fun c2 => ihk.2.2.2.1 _ _ _ (((hR.2 c3) x15 e15).1 c2), fun c2 => fun x16 e16 => fun x17 e17 => ⟨(((((hR.2 c3) x15 e15).2 c2) x16 e16) x17 e17).1, fun x18 e18 => fun x19 e19 => fun x20 e20 => ⟨((((((((hR.2 c3) x15 e15).2 c2) x16 e16) x17 e17).2 x18 e18) x19 e19) x20 e20).1, fun x21 e21 => fun x22 e22 => fun x23 e23 => wmX5_remainder hk (fun y24_0 y24_1 h24 => ⟨h24.1, fun x25 e25 => fun x26 e26 => ihk.2.2.1 _ _ _ ((h24.2 x25 e25) x26 e26)⟩) (((((((((((hR.2 c3) x15 e15).2 c2) x16 e16) x17 e17).2 x18 e18) x19 e19) x20 e20).2 x21 e21) x22 e22) x23 e23)⟩⟩⟩⟩
      · intro t li lj hR
        have hR : wbX5_reduceColumns_3 (wpX5_reduceColumns k) k t li lj Q := hR
        show wbX5_reduceColumns_3 (wpX5_reduceColumns k') k' t li lj Q'
        unfold wbX5_reduceColumns_3 at hR ⊢
        exact ⟨fun c5 => ihk.2.2.2.2.1 _ _ _ (hR.1 c5), fun c5 => fun x27 e27 => fun x28 e28 => ⟨(((hR.2 c5) x27 e27) x28 e28).1, fun x29 e29 => fun x30 e30 => ⟨fun c4 => ihk.2.2.2.2.1 _ _ _ ((((((hR.2 c5) x27 e27) x28 e28).2 x29 e29) x30 e30).1 c4), fun c4 => ihk.2.2.2.2.2 _ _ _ ((((((hR.2 c5) x27 e27) x28 e28).2 x29 e29) x30 e30).2 c4)⟩⟩⟩
      · intro t li lj hR
        have hR : wbX5_reduceColumns_4 (wpX5_reduceColumns k) k t li lj Q := hR
        show wbX5_reduceColumns_4 (wpX5_reduceColumns k') k' t li lj Q'
        unfold wbX5_reduceColumns_4 at hR ⊢
        exact ihk.2.2.2.2.2 _ _ _ hR
      · intro t li lj hR
        have hR : wbX5_reduceColumns_5 (wpX5_reduceColumns k) k t li lj Q := hR
        show wbX5_reduceColumns_5 (wpX5_reduceColumns k') k' t li lj Q'
        unfold wbX5_reduceColumns_5 at hR ⊢
        exact fun x31 e31 => ihk.2.1 _ _ _ (hR x31 e31)
theorem wmX5_reduceColumns {k k' : Nat} {t : XT} {a1 : Int32} {Q Q' : Int32 → XT → Prop} (hk : k ≤ k') (hQ : (∀ (r : Int32) (t : XT), Q r t → Q' r t)) (hR : wqX5_reduceColumns k t a1 Q) : wqX5_reduceColumns k' t a1 Q' := (wnX5_reduceColumns Q Q' hQ k k' hk).1 _ _ _ hR
set_option maxHeartbeats 4000000 in
set_option maxRecDepth 100000 in
theorem wnX5_gcd (Q Q' : Int64 → Prop) (hQ : (∀ (r : Int64), Q r → Q' r)) : ∀ k k' : Nat, k ≤ k' → (∀ (li : Nat → Int32) (lj : Nat → Int64), wpX5_gcd k 0 li lj Q → wpX5_gcd k' 0 li lj Q') ∧ (∀ (li : Nat → Int32) (lj : Nat → Int64), wpX5_gcd k 1 li lj Q → wpX5_gcd k' 1 li lj Q') ∧ (∀ (li : Nat → Int32) (lj : Nat → Int64), wpX5_gcd k 2 li lj Q → wpX5_gcd k' 2 li lj Q') := by
  intro k
  induction k with
  | zero => intro k' _; exact ⟨fun _ _ hR => False.elim hR, fun _ _ hR => False.elim hR, fun _ _ hR => False.elim hR⟩
  | succ k ih =>
    intro k' hk
    cases k' with
    | zero => exact absurd hk (Nat.not_succ_le_zero k)
    | succ k' =>
      have hk := Nat.le_of_succ_le_succ hk
      have ihk := ih k' hk
      refine ⟨?_, ?_, ?_⟩
      · intro li lj hR
        have hR : wbX5_gcd_0 (wpX5_gcd k) k li lj Q := hR
        show wbX5_gcd_0 (wpX5_gcd k') k' li lj Q'
        unfold wbX5_gcd_0 at hR ⊢
        exact fun x3 e3 => fun x4 e4 => ihk.2.1 _ _ ((hR x3 e3) x4 e4)
      · intro li lj hR
        have hR : wbX5_gcd_1 (wpX5_gcd k) k li lj Q := hR
        show wbX5_gcd_1 (wpX5_gcd k') k' li lj Q'
        unfold wbX5_gcd_1 at hR ⊢
        exact ⟨fun c2 => ihk.2.2 _ _ (hR.1 c2), fun c2 => fun x5 e5 => ⟨fun c1 => ihk.2.2 _ _ (((hR.2 c2) x5 e5).1 c1), fun c1 => ⟨(((hR.2 c2) x5 e5).2 c1).1, fun x6 e6 => fun x7 e7 => ihk.2.1 _ _ (((((hR.2 c2) x5 e5).2 c1).2 x6 e6) x7 e7)⟩⟩⟩
      · intro li lj hR
        have hR : wbX5_gcd_2 (wpX5_gcd k) k li lj Q := hR
        show wbX5_gcd_2 (wpX5_gcd k') k' li lj Q'
        unfold wbX5_gcd_2 at hR ⊢
        exact hQ _ hR
theorem wmX5_gcd {k k' : Nat} {a0 : Int64} {a1 : Int64} {Q Q' : Int64 → Prop} (hk : k ≤ k') (hQ : (∀ (r : Int64), Q r → Q' r)) (hR : wqX5_gcd k a0 a1 Q) : wqX5_gcd k' a0 a1 Q' := (wnX5_gcd Q Q' hQ k k' hk).1 _ _ hR
set_option maxHeartbeats 4000000 in
set_option maxRecDepth 100000 in
theorem wnX5_clearCorner (Q Q' : Int64 → XT → Prop) (hQ : (∀ (r : Int64) (t : XT), Q r t → Q' r t)) : ∀ k k' : Nat, k ≤ k' → (∀ (t : XT) (li : Nat → Int32) (lj : Nat → Int64), wpX5_clearCorner k 0 t li lj Q → wpX5_clearCorner k' 0 t li lj Q') ∧ (∀ (t : XT) (li : Nat → Int32) (lj : Nat → Int64), wpX5_clearCorner k 1 t li lj Q → wpX5_clearCorner k' 1 t li lj Q') ∧ (∀ (t : XT) (li : Nat → Int32) (lj : Nat → Int64), wpX5_clearCorner k 2 t li lj Q → wpX5_clearCorner k' 2 t li lj Q') ∧ (∀ (t : XT) (li : Nat → Int32) (lj : Nat → Int64), wpX5_clearCorner k 3 t li lj Q → wpX5_clearCorner k' 3 t li lj Q') := by
  intro k
  induction k with
  | zero => intro k' _; exact ⟨fun _ _ _ hR => False.elim hR, fun _ _ _ hR => False.elim hR, fun _ _ _ hR => False.elim hR, fun _ _ _ hR => False.elim hR⟩
  | succ k ih =>
    intro k' hk
    cases k' with
    | zero => exact absurd hk (Nat.not_succ_le_zero k)
    | succ k' =>
      have hk := Nat.le_of_succ_le_succ hk
      have ihk := ih k' hk
      refine ⟨?_, ?_, ?_, ?_⟩
      · intro t li lj hR
        have hR : wbX5_clearCorner_0 (wpX5_clearCorner k) k t li lj Q := hR
        show wbX5_clearCorner_0 (wpX5_clearCorner k') k' t li lj Q'
        unfold wbX5_clearCorner_0 at hR ⊢
        exact ihk.2.1 _ _ _ hR
      · intro t li lj hR
        have hR : wbX5_clearCorner_1 (wpX5_clearCorner k) k t li lj Q := hR
        show wbX5_clearCorner_1 (wpX5_clearCorner k') k' t li lj Q'
        unfold wbX5_clearCorner_1 at hR ⊢
        exact ⟨fun c5 => hQ _ _ (hR.1 c5), fun c5 => wmX5_leastCell hk (fun y6_0 y6_1 h6 => ⟨fun c4 => ihk.2.2.1 _ _ _ (h6.1 c4), fun c4 => ⟨fun c3 => ⟨((h6.2 c4).1 c3).1, fun x7 e7 => wmX5_swapRows_c30 hk (fun y8_0 h8 => ⟨h8.1, fun x9 e9 => wmX5_swapColumns hk (fun y10_0 h10 => wmX5_reduceRows hk (fun y11_0 y11_1 h11 => wmX5_reduceColumns hk (fun y12_0 y12_1 h12 => ⟨fun c2 => ihk.2.2.2 _ _ _ (h12.1 c2), fun c2 => ⟨fun c1 => ihk.2.2.2 _ _ _ ((h12.2 c2).1 c1), fun c1 => fun x13 e13 => fun x14 e14 => ⟨((((h12.2 c2).2 c1) x13 e13) x14 e14).1, fun x15 e15 => wmX5_gcd hk (fun y16_0 h16 => hQ _ _ h16) (((((h12.2 c2).2 c1) x13 e13) x14 e14).2 x15 e15)⟩⟩⟩) h11) h10) (h8.2 x9 e9)⟩) (((h6.2 c4).1 c3).2 x7 e7)⟩, fun c3 => ihk.2.2.1 _ _ _ ((h6.2 c4).2 c3)⟩⟩) (hR.2 c5)⟩
      · intro t li lj hR
        have hR : wbX5_clearCorner_2 (wpX5_clearCorner k) k t li lj Q := hR
        show wbX5_clearCorner_2 (wpX5_clearCorner k') k' t li lj Q'
        unfold wbX5_clearCorner_2 at hR ⊢
        exact hQ _ _ hR
      · intro t li lj hR
        have hR : wbX5_clearCorner_3 (wpX5_clearCorner k) k t li lj Q := hR
        show wbX5_clearCorner_3 (wpX5_clearCorner k') k' t li lj Q'
        unfold wbX5_clearCorner_3 at hR ⊢
        exact fun x17 e17 => ihk.2.1 _ _ _ (hR x17 e17)
theorem wmX5_clearCorner {k k' : Nat} {t : XT} {a1 : Int32} {Q Q' : Int64 → XT → Prop} (hk : k ≤ k') (hQ : (∀ (r : Int64) (t : XT), Q r t → Q' r t)) (hR : wqX5_clearCorner k t a1 Q) : wqX5_clearCorner k' t a1 Q' := (wnX5_clearCorner Q Q' hQ k k' hk).1 _ _ _ hR
set_option maxHeartbeats 4000000 in
set_option maxRecDepth 100000 in
theorem wnX5_makeDivide (Q Q' : XT → Prop) (hQ : (∀ (t : XT), Q t → Q' t)) : ∀ k k' : Nat, k ≤ k' → (∀ (t : XT) (li : Nat → Int32) (lj : Nat → Int64), wpX5_makeDivide k 0 t li lj Q → wpX5_makeDivide k' 0 t li lj Q') := by
  intro k
  induction k with
  | zero => intro k' _; exact fun _ _ _ hR => False.elim hR
  | succ k ih =>
    intro k' hk
    cases k' with
    | zero => exact absurd hk (Nat.not_succ_le_zero k)
    | succ k' =>
      have hk := Nat.le_of_succ_le_succ hk
      have ihk := ih k' hk
      intro t li lj hR
      have hR : wbX5_makeDivide_0 (wpX5_makeDivide k) k t li lj Q := hR
      show wbX5_makeDivide_0 (wpX5_makeDivide k') k' t li lj Q'
      unfold wbX5_makeDivide_0 at hR ⊢
      exact ⟨hR.1, fun x2 e2 => ⟨(hR.2 x2 e2).1, fun x3 e3 => wmX5_gcd hk (fun y4_0 h4 => fun x5 e5 => ⟨fun c1 => hQ _ ((h4 x5 e5).1 c1), fun c1 => ⟨((h4 x5 e5).2 c1).1, fun x6 e6 => ⟨(((h4 x5 e5).2 c1).2 x6 e6).1, fun x7 e7 => ⟨((((h4 x5 e5).2 c1).2 x6 e6).2 x7 e7).1, fun x8 e8 => fun x9 e9 => ⟨((((((h4 x5 e5).2 c1).2 x6 e6).2 x7 e7).2 x8 e8) x9 e9).1, fun x10 e10 => ⟨(((((((h4 x5 e5).2 c1).2 x6 e6).2 x7 e7).2 x8 e8) x9 e9).2 x10 e10).1, fun x11 e11 => hQ _ ((((((((h4 x5 e5).2 c1).2 x6 e6).2 x7 e7).2 x8 e8) x9 e9).2 x10 e10).2 x11 e11)⟩⟩⟩⟩⟩⟩) ((hR.2 x2 e2).2 x3 e3)⟩⟩
theorem wmX5_makeDivide {k k' : Nat} {t : XT} {a1 : Int32} {a2 : Int32} {Q Q' : XT → Prop} (hk : k ≤ k') (hQ : (∀ (t : XT), Q t → Q' t)) (hR : wqX5_makeDivide k t a1 a2 Q) : wqX5_makeDivide k' t a1 a2 Q' := (wnX5_makeDivide Q Q' hQ k k' hk) _ _ _ hR
set_option maxHeartbeats 4000000 in
set_option maxRecDepth 100000 in
theorem wnX5_diagonalise (Q Q' : XT → Prop) (hQ : (∀ (t : XT), Q t → Q' t)) : ∀ k k' : Nat, k ≤ k' → (∀ (t : XT) (li : Nat → Int32) (lj : Nat → Int64), wpX5_diagonalise k 0 t li lj Q → wpX5_diagonalise k' 0 t li lj Q') ∧ (∀ (t : XT) (li : Nat → Int32) (lj : Nat → Int64), wpX5_diagonalise k 1 t li lj Q → wpX5_diagonalise k' 1 t li lj Q') ∧ (∀ (t : XT) (li : Nat → Int32) (lj : Nat → Int64), wpX5_diagonalise k 2 t li lj Q → wpX5_diagonalise k' 2 t li lj Q') ∧ (∀ (t : XT) (li : Nat → Int32) (lj : Nat → Int64), wpX5_diagonalise k 3 t li lj Q → wpX5_diagonalise k' 3 t li lj Q') ∧ (∀ (t : XT) (li : Nat → Int32) (lj : Nat → Int64), wpX5_diagonalise k 4 t li lj Q → wpX5_diagonalise k' 4 t li lj Q') := by
  intro k
  induction k with
  | zero => intro k' _; exact ⟨fun _ _ _ hR => False.elim hR, fun _ _ _ hR => False.elim hR, fun _ _ _ hR => False.elim hR, fun _ _ _ hR => False.elim hR, fun _ _ _ hR => False.elim hR⟩
  | succ k ih =>
    intro k' hk
    cases k' with
    | zero => exact absurd hk (Nat.not_succ_le_zero k)
    | succ k' =>
      have hk := Nat.le_of_succ_le_succ hk
      have ihk := ih k' hk
      refine ⟨?_, ?_, ?_, ?_, ?_⟩
      · intro t li lj hR
        have hR : wbX5_diagonalise_0 (wpX5_diagonalise k) k t li lj Q := hR
        show wbX5_diagonalise_0 (wpX5_diagonalise k') k' t li lj Q'
        unfold wbX5_diagonalise_0 at hR ⊢
        exact fun x5 e5 => ihk.2.1 _ _ _ (hR x5 e5)
      · intro t li lj hR
        have hR : wbX5_diagonalise_1 (wpX5_diagonalise k) k t li lj Q := hR
        show wbX5_diagonalise_1 (wpX5_diagonalise k') k' t li lj Q'
        unfold wbX5_diagonalise_1 at hR ⊢
        exact fun x6 e6 => ⟨fun c1 => ihk.2.2.1 _ _ _ ((hR x6 e6).1 c1), fun c1 => ⟨((hR x6 e6).2 c1).1, fun x7 e7 => wmX5_remainder hk (fun y8_0 y8_1 h8 => ⟨h8.1, fun x9 e9 => fun x10 e10 => ihk.2.1 _ _ _ ((h8.2 x9 e9) x10 e10)⟩) (((hR x6 e6).2 c1).2 x7 e7)⟩⟩
      · intro t li lj hR
        have hR : wbX5_diagonalise_2 (wpX5_diagonalise k) k t li lj Q := hR
        show wbX5_diagonalise_2 (wpX5_diagonalise k') k' t li lj Q'
        unfold wbX5_diagonalise_2 at hR ⊢
        exact ⟨fun c2 => ihk.2.2.2.1 _ _ _ (hR.1 c2), fun c2 => wmX5_clearCorner hk (fun y11_0 y11_1 h11 => ⟨h11.1, fun x12 e12 => fun x13 e13 => ihk.2.2.1 _ _ _ ((h11.2 x12 e12) x13 e13)⟩) (hR.2 c2)⟩
      · intro t li lj hR
        have hR : wbX5_diagonalise_3 (wpX5_diagonalise k) k t li lj Q := hR
        show wbX5_diagonalise_3 (wpX5_diagonalise k') k' t li lj Q'
        unfold wbX5_diagonalise_3 at hR ⊢
        exact ⟨fun c3 => hQ _ (hR.1 c3), fun c3 => fun x14 e14 => ihk.2.2.2.2 _ _ _ ((hR.2 c3) x14 e14)⟩
      · intro t li lj hR
        have hR : wbX5_diagonalise_4 (wpX5_diagonalise k) k t li lj Q := hR
        show wbX5_diagonalise_4 (wpX5_diagonalise k') k' t li lj Q'
        unfold wbX5_diagonalise_4 at hR ⊢
        exact ⟨fun c4 => fun x15 e15 => ihk.2.2.2.1 _ _ _ ((hR.1 c4) x15 e15), fun c4 => wmX5_makeDivide hk (fun y16_0 h16 => fun x17 e17 => ihk.2.2.2.2 _ _ _ (h16 x17 e17)) (hR.2 c4)⟩
theorem wmX5_diagonalise {k k' : Nat} {t : XT}  {Q Q' : XT → Prop} (hk : k ≤ k') (hQ : (∀ (t : XT), Q t → Q' t)) (hR : wqX5_diagonalise k t  Q) : wqX5_diagonalise k' t  Q' := (wnX5_diagonalise Q Q' hQ k k' hk).1 _ _ _ hR
set_option maxHeartbeats 4000000 in
set_option maxRecDepth 100000 in
theorem wnX0_torsionsOf (Q Q' : Int32 → XT → Prop) (hQ : (∀ (r : Int32) (t : XT), Q r t → Q' r t)) : ∀ k k' : Nat, k ≤ k' → (∀ (t : XT) (li : Nat → Int32) (lj : Nat → Int64), wpX0_torsionsOf k 0 t li lj Q → wpX0_torsionsOf k' 0 t li lj Q') ∧ (∀ (t : XT) (li : Nat → Int32) (lj : Nat → Int64), wpX0_torsionsOf k 1 t li lj Q → wpX0_torsionsOf k' 1 t li lj Q') ∧ (∀ (t : XT) (li : Nat → Int32) (lj : Nat → Int64), wpX0_torsionsOf k 2 t li lj Q → wpX0_torsionsOf k' 2 t li lj Q') ∧ (∀ (t : XT) (li : Nat → Int32) (lj : Nat → Int64), wpX0_torsionsOf k 3 t li lj Q → wpX0_torsionsOf k' 3 t li lj Q') ∧ (∀ (t : XT) (li : Nat → Int32) (lj : Nat → Int64), wpX0_torsionsOf k 4 t li lj Q → wpX0_torsionsOf k' 4 t li lj Q') := by
  intro k
  induction k with
  | zero => intro k' _; exact ⟨fun _ _ _ hR => False.elim hR, fun _ _ _ hR => False.elim hR, fun _ _ _ hR => False.elim hR, fun _ _ _ hR => False.elim hR, fun _ _ _ hR => False.elim hR⟩
  | succ k ih =>
    intro k' hk
    cases k' with
    | zero => exact absurd hk (Nat.not_succ_le_zero k)
    | succ k' =>
      have hk := Nat.le_of_succ_le_succ hk
      have ihk := ih k' hk
      refine ⟨?_, ?_, ?_, ?_, ?_⟩
      · intro t li lj hR
        have hR : wbX0_torsionsOf_0 (wpX0_torsionsOf k) k t li lj Q := hR
        show wbX0_torsionsOf_0 (wpX0_torsionsOf k') k' t li lj Q'
        unfold wbX0_torsionsOf_0 at hR ⊢
        exact fun x6 e6 => wmX0_rankOf hk (fun y7_0 y7_1 h7 => ⟨fun c2 => ihk.2.1 _ _ _ (h7.1 c2), fun c2 => fun x8 e8 => ⟨fun c1 => wmX5_diagonalise hk (fun y9_0 h9 => ihk.2.2.1 _ _ _ h9) (((h7.2 c2) x8 e8).1 c1), fun c1 => ihk.2.1 _ _ _ (((h7.2 c2) x8 e8).2 c1)⟩⟩) (hR x6 e6)
      · intro t li lj hR
        have hR : wbX0_torsionsOf_1 (wpX0_torsionsOf k) k t li lj Q := hR
        show wbX0_torsionsOf_1 (wpX0_torsionsOf k') k' t li lj Q'
        unfold wbX0_torsionsOf_1 at hR ⊢
        exact hQ _ _ hR
      · intro t li lj hR
        have hR : wbX0_torsionsOf_2 (wpX0_torsionsOf k) k t li lj Q := hR
        show wbX0_torsionsOf_2 (wpX0_torsionsOf k') k' t li lj Q'
        unfold wbX0_torsionsOf_2 at hR ⊢
        exact ⟨fun c5 => ihk.2.2.2.2 _ _ _ (hR.1 c5), fun c5 => ⟨fun c4 => ihk.2.2.2.2 _ _ _ ((hR.2 c5).1 c4), fun c4 => ⟨((hR.2 c5).2 c4).1, fun x10 e10 => fun x11 e11 => ⟨fun c3 => ihk.2.2.2.1 _ _ _ (((((hR.2 c5).2 c4).2 x10 e10) x11 e11).1 c3), fun c3 => ⟨(((((hR.2 c5).2 c4).2 x10 e10) x11 e11).2 c3).1, fun x12 e12 => ⟨((((((hR.2 c5).2 c4).2 x10 e10) x11 e11).2 c3).2 x12 e12).1, fun x13 e13 => fun x14 e14 => ihk.2.2.2.1 _ _ _ ((((((((hR.2 c5).2 c4).2 x10 e10) x11 e11).2 c3).2 x12 e12).2 x13 e13) x14 e14)⟩⟩⟩⟩⟩⟩
      · intro t li lj hR
        have hR : wbX0_torsionsOf_3 (wpX0_torsionsOf k) k t li lj Q := hR
        show wbX0_torsionsOf_3 (wpX0_torsionsOf k') k' t li lj Q'
        unfold wbX0_torsionsOf_3 at hR ⊢
        exact fun x15 e15 => ihk.2.2.1 _ _ _ (hR x15 e15)
      · intro t li lj hR
        have hR : wbX0_torsionsOf_4 (wpX0_torsionsOf k) k t li lj Q := hR
        show wbX0_torsionsOf_4 (wpX0_torsionsOf k') k' t li lj Q'
        unfold wbX0_torsionsOf_4 at hR ⊢
        exact hQ _ _ hR
theorem wmX0_torsionsOf {k k' : Nat} {t : XT} {a1 : Int64} {a2 : Int32} {a3 : Int32} {Q Q' : Int32 → XT → Prop} (hk : k ≤ k') (hQ : (∀ (r : Int32) (t : XT), Q r t → Q' r t)) (hR : wqX0_torsionsOf k t a1 a2 a3 Q) : wqX0_torsionsOf k' t a1 a2 a3 Q' := (wnX0_torsionsOf Q Q' hQ k k' hk).1 _ _ _ hR
set_option maxHeartbeats 4000000 in
set_option maxRecDepth 100000 in
theorem wnX11_torsion (Q Q' : Int64 → XT → Prop) (hQ : (∀ (r : Int64) (t : XT), Q r t → Q' r t)) : ∀ k k' : Nat, k ≤ k' → (∀ (t : XT) (li : Nat → Int32) (lj : Nat → Int64), wpX11_torsion k 0 t li lj Q → wpX11_torsion k' 0 t li lj Q') ∧ (∀ (t : XT) (li : Nat → Int32) (lj : Nat → Int64), wpX11_torsion k 1 t li lj Q → wpX11_torsion k' 1 t li lj Q') ∧ (∀ (t : XT) (li : Nat → Int32) (lj : Nat → Int64), wpX11_torsion k 2 t li lj Q → wpX11_torsion k' 2 t li lj Q') := by
  intro k
  induction k with
  | zero => intro k' _; exact ⟨fun _ _ _ hR => False.elim hR, fun _ _ _ hR => False.elim hR, fun _ _ _ hR => False.elim hR⟩
  | succ k ih =>
    intro k' hk
    cases k' with
    | zero => exact absurd hk (Nat.not_succ_le_zero k)
    | succ k' =>
      have hk := Nat.le_of_succ_le_succ hk
      have ihk := ih k' hk
      refine ⟨?_, ?_, ?_⟩
      · intro t li lj hR
        have hR : wbX11_torsion_0 (wpX11_torsion k) k t li lj Q := hR
        show wbX11_torsion_0 (wpX11_torsion k') k' t li lj Q'
        unfold wbX11_torsion_0 at hR ⊢
        exact wmX11_isDim hk (fun y8_0 h8 => ⟨fun c5 => ihk.2.1 _ _ _ (h8.1 c5), fun c5 => ⟨fun c4 => ihk.2.1 _ _ _ ((h8.2 c5).1 c4), fun c4 => ⟨fun c3 => ihk.2.1 _ _ _ (((h8.2 c5).2 c4).1 c3), fun c3 => ⟨fun c2 => wmX11_basis hk (fun y9_0 y9_1 h9 => ⟨fun c1 => ihk.2.2 _ _ _ (h9.1 c1), fun c1 => ihk.2.2 _ _ _ (h9.2 c1)⟩) ((((h8.2 c5).2 c4).2 c3).1 c2), fun c2 => ihk.2.1 _ _ _ ((((h8.2 c5).2 c4).2 c3).2 c2)⟩⟩⟩⟩) hR
      · intro t li lj hR
        have hR : wbX11_torsion_1 (wpX11_torsion k) k t li lj Q := hR
        show wbX11_torsion_1 (wpX11_torsion k') k' t li lj Q'
        unfold wbX11_torsion_1 at hR ⊢
        exact hQ _ _ hR
      · intro t li lj hR
        have hR : wbX11_torsion_2 (wpX11_torsion k) k t li lj Q := hR
        show wbX11_torsion_2 (wpX11_torsion k') k' t li lj Q'
        unfold wbX11_torsion_2 at hR ⊢
        exact wmX0_torsionsOf hk (fun y10_0 y10_1 h10 => ⟨fun c7 => ⟨fun c6 => hQ _ _ ((h10.1 c7).1 c6), fun c6 => ⟨((h10.1 c7).2 c6).1, fun x11 e11 => hQ _ _ (((h10.1 c7).2 c6).2 x11 e11)⟩⟩, fun c7 => fun x12 e12 => hQ _ _ ((h10.2 c7) x12 e12)⟩) hR
theorem wmX11_torsion {k k' : Nat} {t : XT} {a1 : Int32} {a2 : Int32} {a3 : Int32} {Q Q' : Int64 → XT → Prop} (hk : k ≤ k') (hQ : (∀ (r : Int64) (t : XT), Q r t → Q' r t)) (hR : wqX11_torsion k t a1 a2 a3 Q) : wqX11_torsion k' t a1 a2 a3 Q' := (wnX11_torsion Q Q' hQ k k' hk).1 _ _ _ hR
set_option maxHeartbeats 4000000 in
set_option maxRecDepth 100000 in
theorem wnX11_slack (Q Q' : Int32 → XT → Prop) (hQ : (∀ (r : Int32) (t : XT), Q r t → Q' r t)) : ∀ k k' : Nat, k ≤ k' → (∀ (t : XT) (li : Nat → Int32) (lj : Nat → Int64), wpX11_slack k 0 t li lj Q → wpX11_slack k' 0 t li lj Q') ∧ (∀ (t : XT) (li : Nat → Int32) (lj : Nat → Int64), wpX11_slack k 1 t li lj Q → wpX11_slack k' 1 t li lj Q') := by
  intro k
  induction k with
  | zero => intro k' _; exact ⟨fun _ _ _ hR => False.elim hR, fun _ _ _ hR => False.elim hR⟩
  | succ k ih =>
    intro k' hk
    cases k' with
    | zero => exact absurd hk (Nat.not_succ_le_zero k)
    | succ k' =>
      have hk := Nat.le_of_succ_le_succ hk
      have ihk := ih k' hk
      refine ⟨?_, ?_⟩
      · intro t li lj hR
        have hR : wbX11_slack_0 (wpX11_slack k) k t li lj Q := hR
        show wbX11_slack_0 (wpX11_slack k') k' t li lj Q'
        unfold wbX11_slack_0 at hR ⊢
        exact wmX11_isDim hk (fun y3_0 h3 => ⟨fun c1 => ihk.2 _ _ _ (h3.1 c1), fun c1 => hQ _ _ (h3.2 c1)⟩) hR
      · intro t li lj hR
        have hR : wbX11_slack_1 (wpX11_slack k) k t li lj Q := hR
        show wbX11_slack_1 (wpX11_slack k') k' t li lj Q'
        unfold wbX11_slack_1 at hR ⊢
        exact ⟨fun c2 => hQ _ _ (hR.1 c2), fun c2 => wmX6_unpaired hk (fun y4_0 y4_1 h4 => ⟨h4.1, fun x5 e5 => fun x6 e6 => wmJ13_bitCount_95d88 hk (fun y7_0 h7 => wmX0_bettiOf hk (fun y8_0 y8_1 h8 => fun x9 e9 => fun x10 e10 => fun x11 e11 => ihk.2 _ _ _ (((h8 x9 e9) x10 e10) x11 e11)) h7) ((h4.2 x5 e5) x6 e6)⟩) (hR.2 c2)⟩
theorem wmX11_slack {k k' : Nat} {t : XT} {a1 : Int32} {Q Q' : Int32 → XT → Prop} (hk : k ≤ k') (hQ : (∀ (r : Int32) (t : XT), Q r t → Q' r t)) (hR : wqX11_slack k t a1 Q) : wqX11_slack k' t a1 Q' := (wnX11_slack Q Q' hQ k k' hk).1 _ _ _ hR
set_option maxHeartbeats 4000000 in
set_option maxRecDepth 100000 in
theorem wnX11_free (Q Q' : Int32 → XT → Prop) (hQ : (∀ (r : Int32) (t : XT), Q r t → Q' r t)) : ∀ k k' : Nat, k ≤ k' → (∀ (t : XT) (li : Nat → Int32) (lj : Nat → Int64), wpX11_free k 0 t li lj Q → wpX11_free k' 0 t li lj Q') ∧ (∀ (t : XT) (li : Nat → Int32) (lj : Nat → Int64), wpX11_free k 1 t li lj Q → wpX11_free k' 1 t li lj Q') ∧ (∀ (t : XT) (li : Nat → Int32) (lj : Nat → Int64), wpX11_free k 2 t li lj Q → wpX11_free k' 2 t li lj Q') := by
  intro k
  induction k with
  | zero => intro k' _; exact ⟨fun _ _ _ hR => False.elim hR, fun _ _ _ hR => False.elim hR, fun _ _ _ hR => False.elim hR⟩
  | succ k ih =>
    intro k' hk
    cases k' with
    | zero => exact absurd hk (Nat.not_succ_le_zero k)
    | succ k' =>
      have hk := Nat.le_of_succ_le_succ hk
      have ihk := ih k' hk
      refine ⟨?_, ?_, ?_⟩
      · intro t li lj hR
        have hR : wbX11_free_0 (wpX11_free k) k t li lj Q := hR
        show wbX11_free_0 (wpX11_free k') k' t li lj Q'
        unfold wbX11_free_0 at hR ⊢
        exact ⟨fun c1 => ihk.2.1 _ _ _ (hR.1 c1), fun c1 => hQ _ _ (hR.2 c1)⟩
      · intro t li lj hR
        have hR : wbX11_free_1 (wpX11_free k) k t li lj Q := hR
        show wbX11_free_1 (wpX11_free k') k' t li lj Q'
        unfold wbX11_free_1 at hR ⊢
        exact ⟨fun c4 => wmX11_listed hk (fun y5_0 h5 => hQ _ _ h5) (hR.1 c4), fun c4 => wmX11_isThere hk (fun y6_0 y6_1 h6 => ⟨fun c3 => ihk.2.2 _ _ _ (h6.1 c3), fun c3 => wmX11_isFree hk (fun y7_0 y7_1 h7 => ⟨fun c2 => ihk.2.2 _ _ _ (h7.1 c2), fun c2 => wmX11_bit hk (fun y8_0 h8 => fun x9 e9 => ihk.2.2 _ _ _ (h8 x9 e9)) (h7.2 c2)⟩) (h6.2 c3)⟩) (hR.2 c4)⟩
      · intro t li lj hR
        have hR : wbX11_free_2 (wpX11_free k) k t li lj Q := hR
        show wbX11_free_2 (wpX11_free k') k' t li lj Q'
        unfold wbX11_free_2 at hR ⊢
        exact fun x10 e10 => ihk.2.1 _ _ _ (hR x10 e10)
theorem wmX11_free {k k' : Nat} {t : XT} {a1 : Int32} {Q Q' : Int32 → XT → Prop} (hk : k ≤ k') (hQ : (∀ (r : Int32) (t : XT), Q r t → Q' r t)) (hR : wqX11_free k t a1 Q) : wqX11_free k' t a1 Q' := (wnX11_free Q Q' hQ k k' hk).1 _ _ _ hR
set_option maxHeartbeats 4000000 in
set_option maxRecDepth 100000 in
theorem wnX11_facet (Q Q' : Int32 → XT → Prop) (hQ : (∀ (r : Int32) (t : XT), Q r t → Q' r t)) : ∀ k k' : Nat, k ≤ k' → (∀ (t : XT) (li : Nat → Int32) (lj : Nat → Int64), wpX11_facet k 0 t li lj Q → wpX11_facet k' 0 t li lj Q') ∧ (∀ (t : XT) (li : Nat → Int32) (lj : Nat → Int64), wpX11_facet k 1 t li lj Q → wpX11_facet k' 1 t li lj Q') ∧ (∀ (t : XT) (li : Nat → Int32) (lj : Nat → Int64), wpX11_facet k 2 t li lj Q → wpX11_facet k' 2 t li lj Q') := by
  intro k
  induction k with
  | zero => intro k' _; exact ⟨fun _ _ _ hR => False.elim hR, fun _ _ _ hR => False.elim hR, fun _ _ _ hR => False.elim hR⟩
  | succ k ih =>
    intro k' hk
    cases k' with
    | zero => exact absurd hk (Nat.not_succ_le_zero k)
    | succ k' =>
      have hk := Nat.le_of_succ_le_succ hk
      have ihk := ih k' hk
      refine ⟨?_, ?_, ?_⟩
      · intro t li lj hR
        have hR : wbX11_facet_0 (wpX11_facet k) k t li lj Q := hR
        show wbX11_facet_0 (wpX11_facet k') k' t li lj Q'
        unfold wbX11_facet_0 at hR ⊢
        exact ⟨fun c1 => ihk.2.1 _ _ _ (hR.1 c1), fun c1 => hQ _ _ (hR.2 c1)⟩
      · intro t li lj hR
        have hR : wbX11_facet_1 (wpX11_facet k) k t li lj Q := hR
        show wbX11_facet_1 (wpX11_facet k') k' t li lj Q'
        unfold wbX11_facet_1 at hR ⊢
        exact ⟨fun c4 => wmX11_listed hk (fun y5_0 h5 => hQ _ _ h5) (hR.1 c4), fun c4 => wmX11_isThere hk (fun y6_0 y6_1 h6 => ⟨fun c3 => ihk.2.2 _ _ _ (h6.1 c3), fun c3 => ⟨(h6.2 c3).1, fun x7 e7 => fun x8 e8 => fun x9 e9 => ⟨fun c2 => ihk.2.2 _ _ _ (((((h6.2 c3).2 x7 e7) x8 e8) x9 e9).1 c2), fun c2 => wmX11_bit hk (fun y10_0 h10 => fun x11 e11 => ihk.2.2 _ _ _ (h10 x11 e11)) (((((h6.2 c3).2 x7 e7) x8 e8) x9 e9).2 c2)⟩⟩⟩) (hR.2 c4)⟩
      · intro t li lj hR
        have hR : wbX11_facet_2 (wpX11_facet k) k t li lj Q := hR
        show wbX11_facet_2 (wpX11_facet k') k' t li lj Q'
        unfold wbX11_facet_2 at hR ⊢
        exact fun x12 e12 => ihk.2.1 _ _ _ (hR x12 e12)
theorem wmX11_facet {k k' : Nat} {t : XT} {a1 : Int32} {Q Q' : Int32 → XT → Prop} (hk : k ≤ k') (hQ : (∀ (r : Int32) (t : XT), Q r t → Q' r t)) (hR : wqX11_facet k t a1 Q) : wqX11_facet k' t a1 Q' := (wnX11_facet Q Q' hQ k k' hk).1 _ _ _ hR
set_option maxHeartbeats 4000000 in
set_option maxRecDepth 100000 in
theorem wnX11_linkOf (Q Q' : Int64 → XT → Prop) (hQ : (∀ (r : Int64) (t : XT), Q r t → Q' r t)) : ∀ k k' : Nat, k ≤ k' → (∀ (t : XT) (li : Nat → Int32) (lj : Nat → Int64), wpX11_linkOf k 0 t li lj Q → wpX11_linkOf k' 0 t li lj Q') ∧ (∀ (t : XT) (li : Nat → Int32) (lj : Nat → Int64), wpX11_linkOf k 1 t li lj Q → wpX11_linkOf k' 1 t li lj Q') ∧ (∀ (t : XT) (li : Nat → Int32) (lj : Nat → Int64), wpX11_linkOf k 2 t li lj Q → wpX11_linkOf k' 2 t li lj Q') ∧ (∀ (t : XT) (li : Nat → Int32) (lj : Nat → Int64), wpX11_linkOf k 3 t li lj Q → wpX11_linkOf k' 3 t li lj Q') := by
  intro k
  induction k with
  | zero => intro k' _; exact ⟨fun _ _ _ hR => False.elim hR, fun _ _ _ hR => False.elim hR, fun _ _ _ hR => False.elim hR, fun _ _ _ hR => False.elim hR⟩
  | succ k ih =>
    intro k' hk
    cases k' with
    | zero => exact absurd hk (Nat.not_succ_le_zero k)
    | succ k' =>
      have hk := Nat.le_of_succ_le_succ hk
      have ihk := ih k' hk
      refine ⟨?_, ?_, ?_, ?_⟩
      · intro t li lj hR
        have hR : wbX11_linkOf_0 (wpX11_linkOf k) k t li lj Q := hR
        show wbX11_linkOf_0 (wpX11_linkOf k') k' t li lj Q'
        unfold wbX11_linkOf_0 at hR ⊢
        exact ihk.2.1 _ _ _ hR
      · intro t li lj hR
        have hR : wbX11_linkOf_1 (wpX11_linkOf k) k t li lj Q := hR
        show wbX11_linkOf_1 (wpX11_linkOf k') k' t li lj Q'
        unfold wbX11_linkOf_1 at hR ⊢
        exact ⟨fun c2 => hQ _ _ (hR.1 c2), fun c2 => ⟨(hR.2 c2).1, fun x6 e6 => ⟨((hR.2 c2).2 x6 e6).1, fun x7 e7 => fun x8 e8 => ⟨((((hR.2 c2).2 x6 e6).2 x7 e7) x8 e8).1, fun x9 e9 => ⟨(((((hR.2 c2).2 x6 e6).2 x7 e7) x8 e8).2 x9 e9).1, fun x10 e10 => fun x11 e11 => ⟨fun c1 => ihk.2.2.1 _ _ _ ((((((((hR.2 c2).2 x6 e6).2 x7 e7) x8 e8).2 x9 e9).2 x10 e10) x11 e11).1 c1), fun c1 => ihk.2.2.1 _ _ _ ((((((((hR.2 c2).2 x6 e6).2 x7 e7) x8 e8).2 x9 e9).2 x10 e10) x11 e11).2 c1)⟩⟩⟩⟩⟩⟩
      · intro t li lj hR
        have hR : wbX11_linkOf_2 (wpX11_linkOf k) k t li lj Q := hR
        show wbX11_linkOf_2 (wpX11_linkOf k') k' t li lj Q'
        unfold wbX11_linkOf_2 at hR ⊢
        exact wmX11_number hk (fun y12_0 y12_1 h12 => ⟨fun c5 => ihk.2.2.2 _ _ _ (h12.1 c5), fun c5 => wmX11_isThere hk (fun y13_0 y13_1 h13 => ⟨fun c4 => ihk.2.2.2 _ _ _ (h13.1 c4), fun c4 => wmX11_isThere hk (fun y14_0 y14_1 h14 => ⟨fun c3 => ihk.2.2.2 _ _ _ (h14.1 c3), fun c3 => wmX11_bit hk (fun y15_0 h15 => fun x16 e16 => ihk.2.2.2 _ _ _ (h15 x16 e16)) (h14.2 c3)⟩) (h13.2 c4)⟩) (h12.2 c5)⟩) hR
      · intro t li lj hR
        have hR : wbX11_linkOf_3 (wpX11_linkOf k) k t li lj Q := hR
        show wbX11_linkOf_3 (wpX11_linkOf k') k' t li lj Q'
        unfold wbX11_linkOf_3 at hR ⊢
        exact fun x17 e17 => ihk.2.1 _ _ _ (hR x17 e17)
theorem wmX11_linkOf {k k' : Nat} {t : XT} {a1 : Int32} {Q Q' : Int64 → XT → Prop} (hk : k ≤ k') (hQ : (∀ (r : Int64) (t : XT), Q r t → Q' r t)) (hR : wqX11_linkOf k t a1 Q) : wqX11_linkOf k' t a1 Q' := (wnX11_linkOf Q Q' hQ k k' hk).1 _ _ _ hR
set_option maxHeartbeats 4000000 in
set_option maxRecDepth 100000 in
theorem wnX9_eulerOf (Q Q' : Int32 → XT → Prop) (hQ : (∀ (r : Int32) (t : XT), Q r t → Q' r t)) : ∀ k k' : Nat, k ≤ k' → (∀ (t : XT) (li : Nat → Int32) (lj : Nat → Int64), wpX9_eulerOf k 0 t li lj Q → wpX9_eulerOf k' 0 t li lj Q') ∧ (∀ (t : XT) (li : Nat → Int32) (lj : Nat → Int64), wpX9_eulerOf k 1 t li lj Q → wpX9_eulerOf k' 1 t li lj Q') ∧ (∀ (t : XT) (li : Nat → Int32) (lj : Nat → Int64), wpX9_eulerOf k 2 t li lj Q → wpX9_eulerOf k' 2 t li lj Q') := by
  intro k
  induction k with
  | zero => intro k' _; exact ⟨fun _ _ _ hR => False.elim hR, fun _ _ _ hR => False.elim hR, fun _ _ _ hR => False.elim hR⟩
  | succ k ih =>
    intro k' hk
    cases k' with
    | zero => exact absurd hk (Nat.not_succ_le_zero k)
    | succ k' =>
      have hk := Nat.le_of_succ_le_succ hk
      have ihk := ih k' hk
      refine ⟨?_, ?_, ?_⟩
      · intro t li lj hR
        have hR : wbX9_eulerOf_0 (wpX9_eulerOf k) k t li lj Q := hR
        show wbX9_eulerOf_0 (wpX9_eulerOf k') k' t li lj Q'
        unfold wbX9_eulerOf_0 at hR ⊢
        exact ihk.2.1 _ _ _ hR
      · intro t li lj hR
        have hR : wbX9_eulerOf_1 (wpX9_eulerOf k) k t li lj Q := hR
        show wbX9_eulerOf_1 (wpX9_eulerOf k') k' t li lj Q'
        unfold wbX9_eulerOf_1 at hR ⊢
        exact ⟨fun c2 => hQ _ _ (hR.1 c2), fun c2 => ⟨(hR.2 c2).1, fun x3 e3 => fun x4 e4 => wmJ13_bitCount_95d88 hk (fun y5_0 h5 => fun x6 e6 => ⟨fun c1 => fun x7 e7 => ihk.2.2 _ _ _ (((h5 x6 e6).1 c1) x7 e7), fun c1 => ihk.2.2 _ _ _ ((h5 x6 e6).2 c1)⟩) (((hR.2 c2).2 x3 e3) x4 e4)⟩⟩
      · intro t li lj hR
        have hR : wbX9_eulerOf_2 (wpX9_eulerOf k) k t li lj Q := hR
        show wbX9_eulerOf_2 (wpX9_eulerOf k') k' t li lj Q'
        unfold wbX9_eulerOf_2 at hR ⊢
        exact fun x8 e8 => fun x9 e9 => ihk.2.1 _ _ _ ((hR x8 e8) x9 e9)
theorem wmX9_eulerOf {k k' : Nat} {t : XT} {a1 : Int64} {Q Q' : Int32 → XT → Prop} (hk : k ≤ k') (hQ : (∀ (r : Int32) (t : XT), Q r t → Q' r t)) (hR : wqX9_eulerOf k t a1 Q) : wqX9_eulerOf k' t a1 Q' := (wnX9_eulerOf Q Q' hQ k k' hk).1 _ _ _ hR
set_option maxHeartbeats 4000000 in
set_option maxRecDepth 100000 in
theorem wnX11_link (Q Q' : Int32 → XT → Prop) (hQ : (∀ (r : Int32) (t : XT), Q r t → Q' r t)) : ∀ k k' : Nat, k ≤ k' → (∀ (t : XT) (li : Nat → Int32) (lj : Nat → Int64), wpX11_link k 0 t li lj Q → wpX11_link k' 0 t li lj Q') ∧ (∀ (t : XT) (li : Nat → Int32) (lj : Nat → Int64), wpX11_link k 1 t li lj Q → wpX11_link k' 1 t li lj Q') := by
  intro k
  induction k with
  | zero => intro k' _; exact ⟨fun _ _ _ hR => False.elim hR, fun _ _ _ hR => False.elim hR⟩
  | succ k ih =>
    intro k' hk
    cases k' with
    | zero => exact absurd hk (Nat.not_succ_le_zero k)
    | succ k' =>
      have hk := Nat.le_of_succ_le_succ hk
      have ihk := ih k' hk
      refine ⟨?_, ?_⟩
      · intro t li lj hR
        have hR : wbX11_link_0 (wpX11_link k) k t li lj Q := hR
        show wbX11_link_0 (wpX11_link k') k' t li lj Q'
        unfold wbX11_link_0 at hR ⊢
        exact wmX11_isThere hk (fun y5_0 y5_1 h5 => ⟨fun c4 => ihk.2 _ _ _ (h5.1 c4), fun c4 => ⟨fun c3 => ihk.2 _ _ _ ((h5.2 c4).1 c3), fun c3 => ⟨fun c2 => wmX11_linkOf hk (fun y6_0 y6_1 h6 => ⟨fun c1 => wmX9_eulerOf hk (fun y7_0 y7_1 h7 => hQ _ _ h7) (h6.1 c1), fun c1 => wmJ13_bitCount_95d88 hk (fun y8_0 h8 => hQ _ _ h8) (h6.2 c1)⟩) (((h5.2 c4).2 c3).1 c2), fun c2 => ihk.2 _ _ _ (((h5.2 c4).2 c3).2 c2)⟩⟩⟩) hR
      · intro t li lj hR
        have hR : wbX11_link_1 (wpX11_link k) k t li lj Q := hR
        show wbX11_link_1 (wpX11_link k') k' t li lj Q'
        unfold wbX11_link_1 at hR ⊢
        exact hQ _ _ hR
theorem wmX11_link {k k' : Nat} {t : XT} {a1 : Int32} {a2 : Int32} {Q Q' : Int32 → XT → Prop} (hk : k ≤ k') (hQ : (∀ (r : Int32) (t : XT), Q r t → Q' r t)) (hR : wqX11_link k t a1 a2 Q) : wqX11_link k' t a1 a2 Q' := (wnX11_link Q Q' hQ k k' hk).1 _ _ _ hR
set_option maxHeartbeats 4000000 in
set_option maxRecDepth 100000 in
theorem wnX11_roomAbove (Q Q' : Int32 → XT → Prop) (hQ : (∀ (r : Int32) (t : XT), Q r t → Q' r t)) : ∀ k k' : Nat, k ≤ k' → (∀ (t : XT) (li : Nat → Int32) (lj : Nat → Int64), wpX11_roomAbove k 0 t li lj Q → wpX11_roomAbove k' 0 t li lj Q') ∧ (∀ (t : XT) (li : Nat → Int32) (lj : Nat → Int64), wpX11_roomAbove k 1 t li lj Q → wpX11_roomAbove k' 1 t li lj Q') ∧ (∀ (t : XT) (li : Nat → Int32) (lj : Nat → Int64), wpX11_roomAbove k 2 t li lj Q → wpX11_roomAbove k' 2 t li lj Q') := by
  intro k
  induction k with
  | zero => intro k' _; exact ⟨fun _ _ _ hR => False.elim hR, fun _ _ _ hR => False.elim hR, fun _ _ _ hR => False.elim hR⟩
  | succ k ih =>
    intro k' hk
    cases k' with
    | zero => exact absurd hk (Nat.not_succ_le_zero k)
    | succ k' =>
      have hk := Nat.le_of_succ_le_succ hk
      have ihk := ih k' hk
      refine ⟨?_, ?_, ?_⟩
      · intro t li lj hR
        have hR : wbX11_roomAbove_0 (wpX11_roomAbove k) k t li lj Q := hR
        show wbX11_roomAbove_0 (wpX11_roomAbove k') k' t li lj Q'
        unfold wbX11_roomAbove_0 at hR ⊢
        exact fun x4 e4 => ihk.2.1 _ _ _ (hR x4 e4)
      · intro t li lj hR
        have hR : wbX11_roomAbove_1 (wpX11_roomAbove k) k t li lj Q := hR
        show wbX11_roomAbove_1 (wpX11_roomAbove k') k' t li lj Q'
        unfold wbX11_roomAbove_1 at hR ⊢
        exact ⟨fun c3 => hQ _ _ (hR.1 c3), fun c3 => wmX11_isIn hk (fun y5_0 h5 => ⟨fun c2 => ihk.2.2 _ _ _ (h5.1 c2), fun c2 => wmX6_staysAcyclic hk (fun y6_0 y6_1 h6 => ⟨fun c1 => ihk.2.2 _ _ _ (h6.1 c1), fun c1 => fun x7 e7 => ihk.2.2 _ _ _ ((h6.2 c1) x7 e7)⟩) (h5.2 c2)⟩) (hR.2 c3)⟩
      · intro t li lj hR
        have hR : wbX11_roomAbove_2 (wpX11_roomAbove k) k t li lj Q := hR
        show wbX11_roomAbove_2 (wpX11_roomAbove k') k' t li lj Q'
        unfold wbX11_roomAbove_2 at hR ⊢
        exact fun x8 e8 => ihk.2.1 _ _ _ (hR x8 e8)
theorem wmX11_roomAbove {k k' : Nat} {t : XT} {a1 : Int32} {a2 : Int64} {Q Q' : Int32 → XT → Prop} (hk : k ≤ k') (hQ : (∀ (r : Int32) (t : XT), Q r t → Q' r t)) (hR : wqX11_roomAbove k t a1 a2 Q) : wqX11_roomAbove k' t a1 a2 Q' := (wnX11_roomAbove Q Q' hQ k k' hk).1 _ _ _ hR
set_option maxHeartbeats 4000000 in
set_option maxRecDepth 100000 in
theorem wnX11_room (Q Q' : Int32 → XT → Prop) (hQ : (∀ (r : Int32) (t : XT), Q r t → Q' r t)) : ∀ k k' : Nat, k ≤ k' → (∀ (t : XT) (li : Nat → Int32) (lj : Nat → Int64), wpX11_room k 0 t li lj Q → wpX11_room k' 0 t li lj Q') ∧ (∀ (t : XT) (li : Nat → Int32) (lj : Nat → Int64), wpX11_room k 1 t li lj Q → wpX11_room k' 1 t li lj Q') ∧ (∀ (t : XT) (li : Nat → Int32) (lj : Nat → Int64), wpX11_room k 2 t li lj Q → wpX11_room k' 2 t li lj Q') := by
  intro k
  induction k with
  | zero => intro k' _; exact ⟨fun _ _ _ hR => False.elim hR, fun _ _ _ hR => False.elim hR, fun _ _ _ hR => False.elim hR⟩
  | succ k ih =>
    intro k' hk
    cases k' with
    | zero => exact absurd hk (Nat.not_succ_le_zero k)
    | succ k' =>
      have hk := Nat.le_of_succ_le_succ hk
      have ihk := ih k' hk
      refine ⟨?_, ?_, ?_⟩
      · intro t li lj hR
        have hR : wbX11_room_0 (wpX11_room k) k t li lj Q := hR
        show wbX11_room_0 (wpX11_room k') k' t li lj Q'
        unfold wbX11_room_0 at hR ⊢
        exact wmX11_isDim hk (fun y5_0 h5 => ⟨fun c1 => wmX6_unpaired hk (fun y6_0 y6_1 h6 => ihk.2.1 _ _ _ h6) (h5.1 c1), fun c1 => hQ _ _ (h5.2 c1)⟩) hR
      · intro t li lj hR
        have hR : wbX11_room_1 (wpX11_room k) k t li lj Q := hR
        show wbX11_room_1 (wpX11_room k') k' t li lj Q'
        unfold wbX11_room_1 at hR ⊢
        exact ⟨fun c4 => hQ _ _ (hR.1 c4), fun c4 => wmX11_isIn hk (fun y7_0 h7 => ⟨fun c3 => ihk.2.2 _ _ _ (h7.1 c3), fun c3 => ⟨(h7.2 c3).1, fun x8 e8 => ⟨fun c2 => ihk.2.2 _ _ _ (((h7.2 c3).2 x8 e8).1 c2), fun c2 => ⟨(((h7.2 c3).2 x8 e8).2 c2).1, fun x9 e9 => fun x10 e10 => wmX11_roomAbove hk (fun y11_0 y11_1 h11 => fun x12 e12 => ihk.2.2 _ _ _ (h11 x12 e12)) (((((h7.2 c3).2 x8 e8).2 c2).2 x9 e9) x10 e10)⟩⟩⟩⟩) (hR.2 c4)⟩
      · intro t li lj hR
        have hR : wbX11_room_2 (wpX11_room k) k t li lj Q := hR
        show wbX11_room_2 (wpX11_room k') k' t li lj Q'
        unfold wbX11_room_2 at hR ⊢
        exact fun x13 e13 => ihk.2.1 _ _ _ (hR x13 e13)
theorem wmX11_room {k k' : Nat} {t : XT} {a1 : Int32} {Q Q' : Int32 → XT → Prop} (hk : k ≤ k') (hQ : (∀ (r : Int32) (t : XT), Q r t → Q' r t)) (hR : wqX11_room k t a1 Q) : wqX11_room k' t a1 Q' := (wnX11_room Q Q' hQ k k' hk).1 _ _ _ hR
set_option maxHeartbeats 4000000 in
set_option maxRecDepth 100000 in
theorem wnX11_draws (Q Q' : Int32 → XT → Prop) (hQ : (∀ (r : Int32) (t : XT), Q r t → Q' r t)) : ∀ k k' : Nat, k ≤ k' → (∀ (t : XT) (li : Nat → Int32) (lj : Nat → Int64), wpX11_draws k 0 t li lj Q → wpX11_draws k' 0 t li lj Q') := by
  intro k
  induction k with
  | zero => intro k' _; exact fun _ _ _ hR => False.elim hR
  | succ k ih =>
    intro k' hk
    cases k' with
    | zero => exact absurd hk (Nat.not_succ_le_zero k)
    | succ k' =>
      have hk := Nat.le_of_succ_le_succ hk
      have ihk := ih k' hk
      intro t li lj hR
      have hR : wbX11_draws_0 (wpX11_draws k) k t li lj Q := hR
      show wbX11_draws_0 (wpX11_draws k') k' t li lj Q'
      unfold wbX11_draws_0 at hR ⊢
      exact ⟨fun c1 => fun x2 e2 => hQ _ _ ((hR.1 c1) x2 e2), fun c1 => hQ _ _ (hR.2 c1)⟩
theorem wmX11_draws {k k' : Nat} {t : XT} {a1 : Int32} {Q Q' : Int32 → XT → Prop} (hk : k ≤ k') (hQ : (∀ (r : Int32) (t : XT), Q r t → Q' r t)) (hR : wqX11_draws k t a1 Q) : wqX11_draws k' t a1 Q' := (wnX11_draws Q Q' hQ k k' hk) _ _ _ hR
set_option maxHeartbeats 4000000 in
set_option maxRecDepth 100000 in
theorem wnX9_greatestDim (Q Q' : Int32 → XT → Prop) (hQ : (∀ (r : Int32) (t : XT), Q r t → Q' r t)) : ∀ k k' : Nat, k ≤ k' → (∀ (t : XT) (li : Nat → Int32) (lj : Nat → Int64), wpX9_greatestDim k 0 t li lj Q → wpX9_greatestDim k' 0 t li lj Q') ∧ (∀ (t : XT) (li : Nat → Int32) (lj : Nat → Int64), wpX9_greatestDim k 1 t li lj Q → wpX9_greatestDim k' 1 t li lj Q') ∧ (∀ (t : XT) (li : Nat → Int32) (lj : Nat → Int64), wpX9_greatestDim k 2 t li lj Q → wpX9_greatestDim k' 2 t li lj Q') := by
  intro k
  induction k with
  | zero => intro k' _; exact ⟨fun _ _ _ hR => False.elim hR, fun _ _ _ hR => False.elim hR, fun _ _ _ hR => False.elim hR⟩
  | succ k ih =>
    intro k' hk
    cases k' with
    | zero => exact absurd hk (Nat.not_succ_le_zero k)
    | succ k' =>
      have hk := Nat.le_of_succ_le_succ hk
      have ihk := ih k' hk
      refine ⟨?_, ?_, ?_⟩
      · intro t li lj hR
        have hR : wbX9_greatestDim_0 (wpX9_greatestDim k) k t li lj Q := hR
        show wbX9_greatestDim_0 (wpX9_greatestDim k') k' t li lj Q'
        unfold wbX9_greatestDim_0 at hR ⊢
        exact ihk.2.1 _ _ _ hR
      · intro t li lj hR
        have hR : wbX9_greatestDim_1 (wpX9_greatestDim k) k t li lj Q := hR
        show wbX9_greatestDim_1 (wpX9_greatestDim k') k' t li lj Q'
        unfold wbX9_greatestDim_1 at hR ⊢
        exact ⟨fun c2 => hQ _ _ (hR.1 c2), fun c2 => ⟨(hR.2 c2).1, fun x3 e3 => fun x4 e4 => fun x5 e5 => ⟨fun c1 => ihk.2.2 _ _ _ (((((hR.2 c2).2 x3 e3) x4 e4) x5 e5).1 c1), fun c1 => ihk.2.2 _ _ _ (((((hR.2 c2).2 x3 e3) x4 e4) x5 e5).2 c1)⟩⟩⟩
      · intro t li lj hR
        have hR : wbX9_greatestDim_2 (wpX9_greatestDim k) k t li lj Q := hR
        show wbX9_greatestDim_2 (wpX9_greatestDim k') k' t li lj Q'
        unfold wbX9_greatestDim_2 at hR ⊢
        exact fun x6 e6 => ihk.2.1 _ _ _ (hR x6 e6)
theorem wmX9_greatestDim {k k' : Nat} {t : XT} {a1 : Int64} {Q Q' : Int32 → XT → Prop} (hk : k ≤ k') (hQ : (∀ (r : Int32) (t : XT), Q r t → Q' r t)) (hR : wqX9_greatestDim k t a1 Q) : wqX9_greatestDim k' t a1 Q' := (wnX9_greatestDim Q Q' hQ k k' hk).1 _ _ _ hR
