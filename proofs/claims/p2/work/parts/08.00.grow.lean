set_option maxHeartbeats 4000000 in
set_option maxRecDepth 100000 in
theorem wnX12_puts (Q Q' : XT → Prop) (hQ : (∀ (t : XT), Q t → Q' t)) : ∀ k k' : Nat, k ≤ k' → (∀ (t : XT) (li : Nat → Int32) (lj : Nat → Int64), wpX12_puts k 0 t li lj Q → wpX12_puts k' 0 t li lj Q') ∧ (∀ (t : XT) (li : Nat → Int32) (lj : Nat → Int64), wpX12_puts k 1 t li lj Q → wpX12_puts k' 1 t li lj Q') := by
  intro k
  induction k with
  | zero => intro k' _; exact ⟨fun _ _ _ hR => False.elim hR, fun _ _ _ hR => False.elim hR⟩
  | succ k ih =>
    intro k' hk
    cases k' with
    | zero => exact absurd hk (Nat.not_succ_le_zero k)
    | succ k' =>
      have hk := Nat.le_of_succ_le_succ hk
      have ihk := ih k' hk
      refine ⟨?_, ?_⟩
      · intro t li lj hR
        have hR : wbX12_puts_0 (wpX12_puts k) k t li lj Q := hR
        show wbX12_puts_0 (wpX12_puts k') k' t li lj Q'
        unfold wbX12_puts_0 at hR ⊢
        exact ihk.2 _ _ _ hR
      · intro t li lj hR
        have hR : wbX12_puts_1 (wpX12_puts k) k t li lj Q := hR
        show wbX12_puts_1 (wpX12_puts k') k' t li lj Q'
        unfold wbX12_puts_1 at hR ⊢
        exact ⟨fun c1 => hQ _ (hR.1 c1), fun c1 => fun x2 e2 => fun x3 e3 => ⟨(((hR.2 c1) x2 e2) x3 e3).1, fun x4 e4 => fun x5 e5 => fun x6 e6 => fun x7 e7 => ihk.2 _ _ _ (((((((hR.2 c1) x2 e2) x3 e3).2 x4 e4) x5 e5) x6 e6) x7 e7)⟩⟩
theorem wmX12_puts {k k' : Nat} {t : XT} {a1 : Int32} {Q Q' : XT → Prop} (hk : k ≤ k') (hQ : (∀ (t : XT), Q t → Q' t)) (hR : wqX12_puts k t a1 Q) : wqX12_puts k' t a1 Q' := (wnX12_puts Q Q' hQ k k' hk).1 _ _ _ hR
set_option maxHeartbeats 4000000 in
set_option maxRecDepth 100000 in
theorem wnX12_feed (Q Q' : Int32 → XT → Prop) (hQ : (∀ (r : Int32) (t : XT), Q r t → Q' r t)) : ∀ k k' : Nat, k ≤ k' → (∀ (t : XT) (li : Nat → Int32) (lj : Nat → Int64), wpX12_feed k 0 t li lj Q → wpX12_feed k' 0 t li lj Q') := by
  intro k
  induction k with
  | zero => intro k' _; exact fun _ _ _ hR => False.elim hR
  | succ k ih =>
    intro k' hk
    cases k' with
    | zero => exact absurd hk (Nat.not_succ_le_zero k)
    | succ k' =>
      have hk := Nat.le_of_succ_le_succ hk
      have ihk := ih k' hk
      intro t li lj hR
      have hR : wbX12_feed_0 (wpX12_feed k) k t li lj Q := hR
      show wbX12_feed_0 (wpX12_feed k') k' t li lj Q'
      unfold wbX12_feed_0 at hR ⊢
      exact fun x2 e2 => ⟨fun c1 => wmX12_puts hk (fun y3_0 h3 => wmX12_puts hk (fun y4_0 h4 => wmX12_puts hk (fun y5_0 h5 => wmX12_puts hk (fun y6_0 h6 => wmX12_puts hk (fun y7_0 h7 => hQ _ _ h7) h6) h5) h4) h3) ((hR x2 e2).1 c1), fun c1 => hQ _ _ ((hR x2 e2).2 c1)⟩
theorem wmX12_feed {k k' : Nat} {t : XT} {a1 : Int32} {a2 : Int32} {a3 : Int32} {a4 : Int32} {a5 : Int32} {Q Q' : Int32 → XT → Prop} (hk : k ≤ k') (hQ : (∀ (r : Int32) (t : XT), Q r t → Q' r t)) (hR : wqX12_feed k t a1 a2 a3 a4 a5 Q) : wqX12_feed k' t a1 a2 a3 a4 a5 Q' := (wnX12_feed Q Q' hQ k k' hk) _ _ _ hR
set_option maxHeartbeats 4000000 in
set_option maxRecDepth 100000 in
theorem wnX12_end (Q Q' : Int32 → XT → Prop) (hQ : (∀ (r : Int32) (t : XT), Q r t → Q' r t)) : ∀ k k' : Nat, k ≤ k' → (∀ (t : XT) (li : Nat → Int32) (lj : Nat → Int64), wpX12_end k 0 t li lj Q → wpX12_end k' 0 t li lj Q') ∧ (∀ (t : XT) (li : Nat → Int32) (lj : Nat → Int64), wpX12_end k 1 t li lj Q → wpX12_end k' 1 t li lj Q') := by
  intro k
  induction k with
  | zero => intro k' _; exact ⟨fun _ _ _ hR => False.elim hR, fun _ _ _ hR => False.elim hR⟩
  | succ k ih =>
    intro k' hk
    cases k' with
    | zero => exact absurd hk (Nat.not_succ_le_zero k)
    | succ k' =>
      have hk := Nat.le_of_succ_le_succ hk
      have ihk := ih k' hk
      refine ⟨?_, ?_⟩
      · intro t li lj hR
        have hR : wbX12_end_0 (wpX12_end k) k t li lj Q := hR
        show wbX12_end_0 (wpX12_end k') k' t li lj Q'
        unfold wbX12_end_0 at hR ⊢
        exact ⟨fun c2 => ihk.2 _ _ _ (hR.1 c2), fun c2 => ⟨fun c1 => fun x3 e3 => hQ _ _ (((hR.2 c2).1 c1) x3 e3), fun c1 => ihk.2 _ _ _ ((hR.2 c2).2 c1)⟩⟩
      · intro t li lj hR
        have hR : wbX12_end_1 (wpX12_end k) k t li lj Q := hR
        show wbX12_end_1 (wpX12_end k') k' t li lj Q'
        unfold wbX12_end_1 at hR ⊢
        exact hQ _ _ hR
theorem wmX12_end {k k' : Nat} {t : XT} {a1 : Int32} {Q Q' : Int32 → XT → Prop} (hk : k ≤ k') (hQ : (∀ (r : Int32) (t : XT), Q r t → Q' r t)) (hR : wqX12_end k t a1 Q) : wqX12_end k' t a1 Q' := (wnX12_end Q Q' hQ k k' hk).1 _ _ _ hR
set_option maxHeartbeats 4000000 in
set_option maxRecDepth 100000 in
theorem wnX12_isRight (Q Q' : Int32 → XT → Prop) (hQ : (∀ (r : Int32) (t : XT), Q r t → Q' r t)) : ∀ k k' : Nat, k ≤ k' → (∀ (t : XT) (li : Nat → Int32) (lj : Nat → Int64), wpX12_isRight k 0 t li lj Q → wpX12_isRight k' 0 t li lj Q') := by
  intro k
  induction k with
  | zero => intro k' _; exact fun _ _ _ hR => False.elim hR
  | succ k ih =>
    intro k' hk
    cases k' with
    | zero => exact absurd hk (Nat.not_succ_le_zero k)
    | succ k' =>
      have hk := Nat.le_of_succ_le_succ hk
      have ihk := ih k' hk
      intro t li lj hR
      have hR : wbX12_isRight_0 (wpX12_isRight k) k t li lj Q := hR
      show wbX12_isRight_0 (wpX12_isRight k') k' t li lj Q'
      unfold wbX12_isRight_0 at hR ⊢
      exact ⟨fun c1 => hQ _ _ (hR.1 c1), fun c1 => hQ _ _ (hR.2 c1)⟩
theorem wmX12_isRight {k k' : Nat} {t : XT}  {Q Q' : Int32 → XT → Prop} (hk : k ≤ k') (hQ : (∀ (r : Int32) (t : XT), Q r t → Q' r t)) (hR : wqX12_isRight k t  Q) : wqX12_isRight k' t  Q' := (wnX12_isRight Q Q' hQ k k' hk) _ _ _ hR
set_option maxHeartbeats 4000000 in
set_option maxRecDepth 100000 in
theorem wnX12_byteNow (Q Q' : Int32 → XT → Prop) (hQ : (∀ (r : Int32) (t : XT), Q r t → Q' r t)) : ∀ k k' : Nat, k ≤ k' → (∀ (t : XT) (li : Nat → Int32) (lj : Nat → Int64), wpX12_byteNow k 0 t li lj Q → wpX12_byteNow k' 0 t li lj Q') := by
  intro k
  induction k with
  | zero => intro k' _; exact fun _ _ _ hR => False.elim hR
  | succ k ih =>
    intro k' hk
    cases k' with
    | zero => exact absurd hk (Nat.not_succ_le_zero k)
    | succ k' =>
      have hk := Nat.le_of_succ_le_succ hk
      have ihk := ih k' hk
      intro t li lj hR
      have hR : wbX12_byteNow_0 (wpX12_byteNow k) k t li lj Q := hR
      show wbX12_byteNow_0 (wpX12_byteNow k') k' t li lj Q'
      unfold wbX12_byteNow_0 at hR ⊢
      exact ⟨fun c1 => hQ _ _ (hR.1 c1), fun c1 => ⟨(hR.2 c1).1, fun x2 e2 => fun x3 e3 => hQ _ _ (((hR.2 c1).2 x2 e2) x3 e3)⟩⟩
theorem wmX12_byteNow {k k' : Nat} {t : XT}  {Q Q' : Int32 → XT → Prop} (hk : k ≤ k') (hQ : (∀ (r : Int32) (t : XT), Q r t → Q' r t)) (hR : wqX12_byteNow k t  Q) : wqX12_byteNow k' t  Q' := (wnX12_byteNow Q Q' hQ k k' hk) _ _ _ hR
set_option maxHeartbeats 4000000 in
set_option maxRecDepth 100000 in
theorem wnX12_fails (Q Q' : XT → Prop) (hQ : (∀ (t : XT), Q t → Q' t)) : ∀ k k' : Nat, k ≤ k' → (∀ (t : XT) (li : Nat → Int32) (lj : Nat → Int64), wpX12_fails k 0 t li lj Q → wpX12_fails k' 0 t li lj Q') := by
  intro k
  induction k with
  | zero => intro k' _; exact fun _ _ _ hR => False.elim hR
  | succ k ih =>
    intro k' hk
    cases k' with
    | zero => exact absurd hk (Nat.not_succ_le_zero k)
    | succ k' =>
      have hk := Nat.le_of_succ_le_succ hk
      have ihk := ih k' hk
      intro t li lj hR
      have hR : wbX12_fails_0 (wpX12_fails k) k t li lj Q := hR
      show wbX12_fails_0 (wpX12_fails k') k' t li lj Q'
      unfold wbX12_fails_0 at hR ⊢
      exact ⟨fun c1 => hQ _ (hR.1 c1), fun c1 => fun x2 e2 => fun x3 e3 => fun x4 e4 => hQ _ ((((hR.2 c1) x2 e2) x3 e3) x4 e4)⟩
theorem wmX12_fails {k k' : Nat} {t : XT} {a1 : Int32} {a2 : Int32} {Q Q' : XT → Prop} (hk : k ≤ k') (hQ : (∀ (t : XT), Q t → Q' t)) (hR : wqX12_fails k t a1 a2 Q) : wqX12_fails k' t a1 a2 Q' := (wnX12_fails Q Q' hQ k k' hk) _ _ _ hR
set_option maxHeartbeats 4000000 in
set_option maxRecDepth 100000 in
theorem wnX12_blanks (Q Q' : XT → Prop) (hQ : (∀ (t : XT), Q t → Q' t)) : ∀ k k' : Nat, k ≤ k' → (∀ (t : XT) (li : Nat → Int32) (lj : Nat → Int64), wpX12_blanks k 0 t li lj Q → wpX12_blanks k' 0 t li lj Q') := by
  intro k
  induction k with
  | zero => intro k' _; exact fun _ _ _ hR => False.elim hR
  | succ k ih =>
    intro k' hk
    cases k' with
    | zero => exact absurd hk (Nat.not_succ_le_zero k)
    | succ k' =>
      have hk := Nat.le_of_succ_le_succ hk
      have ihk := ih k' hk
      intro t li lj hR
      have hR : wbX12_blanks_0 (wpX12_blanks k) k t li lj Q := hR
      show wbX12_blanks_0 (wpX12_blanks k') k' t li lj Q'
      unfold wbX12_blanks_0 at hR ⊢
      exact wmX12_byteNow hk (fun y2_0 y2_1 h2 => ⟨fun c1 => hQ _ (h2.1 c1), fun c1 => fun x3 e3 => fun x4 e4 => ihk _ _ _ (((h2.2 c1) x3 e3) x4 e4)⟩) hR
theorem wmX12_blanks {k k' : Nat} {t : XT}  {Q Q' : XT → Prop} (hk : k ≤ k') (hQ : (∀ (t : XT), Q t → Q' t)) (hR : wqX12_blanks k t  Q) : wqX12_blanks k' t  Q' := (wnX12_blanks Q Q' hQ k k' hk) _ _ _ hR
set_option maxHeartbeats 4000000 in
set_option maxRecDepth 100000 in
theorem wnX12_in (Q Q' : Int32 → Prop) (hQ : (∀ (r : Int32), Q r → Q' r)) : ∀ k k' : Nat, k ≤ k' → (∀ (li : Nat → Int32) (lj : Nat → Int64), wpX12_in k 0 li lj Q → wpX12_in k' 0 li lj Q') ∧ (∀ (li : Nat → Int32) (lj : Nat → Int64), wpX12_in k 1 li lj Q → wpX12_in k' 1 li lj Q') := by
  intro k
  induction k with
  | zero => intro k' _; exact ⟨fun _ _ hR => False.elim hR, fun _ _ hR => False.elim hR⟩
  | succ k ih =>
    intro k' hk
    cases k' with
    | zero => exact absurd hk (Nat.not_succ_le_zero k)
    | succ k' =>
      have hk := Nat.le_of_succ_le_succ hk
      have ihk := ih k' hk
      refine ⟨?_, ?_⟩
      · intro li lj hR
        have hR : wbX12_in_0 (wpX12_in k) k li lj Q := hR
        show wbX12_in_0 (wpX12_in k') k' li lj Q'
        unfold wbX12_in_0 at hR ⊢
        exact ⟨fun c2 => ihk.2 _ _ (hR.1 c2), fun c2 => ⟨fun c1 => ihk.2 _ _ ((hR.2 c2).1 c1), fun c1 => hQ _ ((hR.2 c2).2 c1)⟩⟩
      · intro li lj hR
        have hR : wbX12_in_1 (wpX12_in k) k li lj Q := hR
        show wbX12_in_1 (wpX12_in k') k' li lj Q'
        unfold wbX12_in_1 at hR ⊢
        exact hQ _ hR
theorem wmX12_in {k k' : Nat} {a0 : Int32} {a1 : Int32} {a2 : Int32} {Q Q' : Int32 → Prop} (hk : k ≤ k') (hQ : (∀ (r : Int32), Q r → Q' r)) (hR : wqX12_in k a0 a1 a2 Q) : wqX12_in k' a0 a1 a2 Q' := (wnX12_in Q Q' hQ k k' hk).1 _ _ hR
set_option maxHeartbeats 4000000 in
set_option maxRecDepth 100000 in
theorem wnX12_isLetter (Q Q' : Int32 → XT → Prop) (hQ : (∀ (r : Int32) (t : XT), Q r t → Q' r t)) : ∀ k k' : Nat, k ≤ k' → (∀ (t : XT) (li : Nat → Int32) (lj : Nat → Int64), wpX12_isLetter k 0 t li lj Q → wpX12_isLetter k' 0 t li lj Q') := by
  intro k
  induction k with
  | zero => intro k' _; exact fun _ _ _ hR => False.elim hR
  | succ k ih =>
    intro k' hk
    cases k' with
    | zero => exact absurd hk (Nat.not_succ_le_zero k)
    | succ k' =>
      have hk := Nat.le_of_succ_le_succ hk
      have ihk := ih k' hk
      intro t li lj hR
      have hR : wbX12_isLetter_0 (wpX12_isLetter k) k t li lj Q := hR
      show wbX12_isLetter_0 (wpX12_isLetter k') k' t li lj Q'
      unfold wbX12_isLetter_0 at hR ⊢
      exact wmX12_byteNow hk (fun y1_0 y1_1 h1 => wmX12_in hk (fun y2_0 h2 => ⟨h2.1, hQ _ _ h2.2⟩) h1) hR
theorem wmX12_isLetter {k k' : Nat} {t : XT}  {Q Q' : Int32 → XT → Prop} (hk : k ≤ k') (hQ : (∀ (r : Int32) (t : XT), Q r t → Q' r t)) (hR : wqX12_isLetter k t  Q) : wqX12_isLetter k' t  Q' := (wnX12_isLetter Q Q' hQ k k' hk) _ _ _ hR
set_option maxHeartbeats 4000000 in
set_option maxRecDepth 100000 in
theorem wnJ6_bitCount_0f7a4 (Q Q' : Int32 → Prop) (hQ : (∀ (r : Int32), Q r → Q' r)) : ∀ k k' : Nat, k ≤ k' → (∀ (li : Nat → Int32) (lj : Nat → Int64), wpJ6_bitCount_0f7a4 k 0 li lj Q → wpJ6_bitCount_0f7a4 k' 0 li lj Q') := by
  intro k
  induction k with
  | zero => intro k' _; exact fun _ _ hR => False.elim hR
  | succ k ih =>
    intro k' hk
    cases k' with
    | zero => exact absurd hk (Nat.not_succ_le_zero k)
    | succ k' =>
      have hk := Nat.le_of_succ_le_succ hk
      have ihk := ih k' hk
      intro li lj hR
      have hR : wbJ6_bitCount_0f7a4_0 (wpJ6_bitCount_0f7a4 k) k li lj Q := hR
      show wbJ6_bitCount_0f7a4_0 (wpJ6_bitCount_0f7a4 k') k' li lj Q'
      unfold wbJ6_bitCount_0f7a4_0 at hR ⊢
      exact fun x1 e1 => fun x2 e2 => fun x3 e3 => fun x4 e4 => fun x5 e5 => fun x6 e6 => fun x7 e7 => fun x8 e8 => fun x9 e9 => fun x10 e10 => fun x11 e11 => fun x12 e12 => fun x13 e13 => fun x14 e14 => fun x15 e15 => hQ _ (((((((((((((((hR x1 e1) x2 e2) x3 e3) x4 e4) x5 e5) x6 e6) x7 e7) x8 e8) x9 e9) x10 e10) x11 e11) x12 e12) x13 e13) x14 e14) x15 e15)
theorem wmJ6_bitCount_0f7a4 {k k' : Nat} {a0 : Int32} {Q Q' : Int32 → Prop} (hk : k ≤ k') (hQ : (∀ (r : Int32), Q r → Q' r)) (hR : wqJ6_bitCount_0f7a4 k a0 Q) : wqJ6_bitCount_0f7a4 k' a0 Q' := (wnJ6_bitCount_0f7a4 Q Q' hQ k k' hk) _ _ hR
set_option maxHeartbeats 4000000 in
set_option maxRecDepth 100000 in
theorem wnX12_takesSets (Q Q' : XT → Prop) (hQ : (∀ (t : XT), Q t → Q' t)) : ∀ k k' : Nat, k ≤ k' → (∀ (t : XT) (li : Nat → Int32) (lj : Nat → Int64), wpX12_takesSets k 0 t li lj Q → wpX12_takesSets k' 0 t li lj Q') ∧ (∀ (t : XT) (li : Nat → Int32) (lj : Nat → Int64), wpX12_takesSets k 1 t li lj Q → wpX12_takesSets k' 1 t li lj Q') ∧ (∀ (t : XT) (li : Nat → Int32) (lj : Nat → Int64), wpX12_takesSets k 2 t li lj Q → wpX12_takesSets k' 2 t li lj Q') := by
  intro k
  induction k with
  | zero => intro k' _; exact ⟨fun _ _ _ hR => False.elim hR, fun _ _ _ hR => False.elim hR, fun _ _ _ hR => False.elim hR⟩
  | succ k ih =>
    intro k' hk
    cases k' with
    | zero => exact absurd hk (Nat.not_succ_le_zero k)
    | succ k' =>
      have hk := Nat.le_of_succ_le_succ hk
      have ihk := ih k' hk
      refine ⟨?_, ?_, ?_⟩
      · intro t li lj hR
        have hR : wbX12_takesSets_0 (wpX12_takesSets k) k t li lj Q := hR
        show wbX12_takesSets_0 (wpX12_takesSets k') k' t li lj Q'
        unfold wbX12_takesSets_0 at hR ⊢
        exact ihk.2.1 _ _ _ hR
      · intro t li lj hR
        have hR : wbX12_takesSets_1 (wpX12_takesSets k) k t li lj Q := hR
        show wbX12_takesSets_1 (wpX12_takesSets k') k' t li lj Q'
        unfold wbX12_takesSets_1 at hR ⊢
        exact ⟨fun c2 => hQ _ (hR.1 c2), fun c2 => fun x3 e3 => fun x4 e4 => ⟨fun c1 => ihk.2.2 _ _ _ ((((hR.2 c2) x3 e3) x4 e4).1 c1), fun c1 => ⟨((((hR.2 c2) x3 e3) x4 e4).2 c1).1, fun x5 e5 => ihk.2.2 _ _ _ (((((hR.2 c2) x3 e3) x4 e4).2 c1).2 x5 e5)⟩⟩⟩
      · intro t li lj hR
        have hR : wbX12_takesSets_2 (wpX12_takesSets k) k t li lj Q := hR
        show wbX12_takesSets_2 (wpX12_takesSets k') k' t li lj Q'
        unfold wbX12_takesSets_2 at hR ⊢
        exact fun x6 e6 => ihk.2.1 _ _ _ (hR x6 e6)
theorem wmX12_takesSets {k k' : Nat} {t : XT} {a1 : Int32} {Q Q' : XT → Prop} (hk : k ≤ k') (hQ : (∀ (t : XT), Q t → Q' t)) (hR : wqX12_takesSets k t a1 Q) : wqX12_takesSets k' t a1 Q' := (wnX12_takesSets Q Q' hQ k k' hk).1 _ _ _ hR
set_option maxHeartbeats 4000000 in
set_option maxRecDepth 100000 in
theorem wnX12_truth (Q Q' : Int32 → Prop) (hQ : (∀ (r : Int32), Q r → Q' r)) : ∀ k k' : Nat, k ≤ k' → (∀ (li : Nat → Int32) (lj : Nat → Int64), wpX12_truth k 0 li lj Q → wpX12_truth k' 0 li lj Q') := by
  intro k
  induction k with
  | zero => intro k' _; exact fun _ _ hR => False.elim hR
  | succ k ih =>
    intro k' hk
    cases k' with
    | zero => exact absurd hk (Nat.not_succ_le_zero k)
    | succ k' =>
      have hk := Nat.le_of_succ_le_succ hk
      have ihk := ih k' hk
      intro li lj hR
      have hR : wbX12_truth_0 (wpX12_truth k) k li lj Q := hR
      show wbX12_truth_0 (wpX12_truth k') k' li lj Q'
      unfold wbX12_truth_0 at hR ⊢
      exact ⟨fun c1 => hQ _ (hR.1 c1), fun c1 => hQ _ (hR.2 c1)⟩
theorem wmX12_truth {k k' : Nat} {a0 : Int32} {Q Q' : Int32 → Prop} (hk : k ≤ k') (hQ : (∀ (r : Int32), Q r → Q' r)) (hR : wqX12_truth k a0 Q) : wqX12_truth k' a0 Q' := (wnX12_truth Q Q' hQ k k' hk) _ _ hR
set_option maxHeartbeats 4000000 in
set_option maxRecDepth 100000 in
theorem wnX12_toldMany (Q Q' : Int32 → XT → Prop) (hQ : (∀ (r : Int32) (t : XT), Q r t → Q' r t)) : ∀ k k' : Nat, k ≤ k' → (∀ (t : XT) (li : Nat → Int32) (lj : Nat → Int64), wpX12_toldMany k 0 t li lj Q → wpX12_toldMany k' 0 t li lj Q') ∧ (∀ (t : XT) (li : Nat → Int32) (lj : Nat → Int64), wpX12_toldMany k 1 t li lj Q → wpX12_toldMany k' 1 t li lj Q') := by
  intro k
  induction k with
  | zero => intro k' _; exact ⟨fun _ _ _ hR => False.elim hR, fun _ _ _ hR => False.elim hR⟩
  | succ k ih =>
    intro k' hk
    cases k' with
    | zero => exact absurd hk (Nat.not_succ_le_zero k)
    | succ k' =>
      have hk := Nat.le_of_succ_le_succ hk
      have ihk := ih k' hk
      refine ⟨?_, ?_⟩
      · intro t li lj hR
        have hR : wbX12_toldMany_0 (wpX12_toldMany k) k t li lj Q := hR
        show wbX12_toldMany_0 (wpX12_toldMany k') k' t li lj Q'
        unfold wbX12_toldMany_0 at hR ⊢
        exact ihk.2 _ _ _ hR
      · intro t li lj hR
        have hR : wbX12_toldMany_1 (wpX12_toldMany k) k t li lj Q := hR
        show wbX12_toldMany_1 (wpX12_toldMany k') k' t li lj Q'
        unfold wbX12_toldMany_1 at hR ⊢
        exact ⟨fun c1 => hQ _ _ (hR.1 c1), fun c1 => ⟨(hR.2 c1).1, fun x2 e2 => wmX12_truth hk (fun y3_0 h3 => fun x4 e4 => fun x5 e5 => ihk.2 _ _ _ ((h3 x4 e4) x5 e5)) ((hR.2 c1).2 x2 e2)⟩⟩
theorem wmX12_toldMany {k k' : Nat} {t : XT}  {Q Q' : Int32 → XT → Prop} (hk : k ≤ k') (hQ : (∀ (r : Int32) (t : XT), Q r t → Q' r t)) (hR : wqX12_toldMany k t  Q) : wqX12_toldMany k' t  Q' := (wnX12_toldMany Q Q' hQ k k' hk).1 _ _ _ hR
set_option maxHeartbeats 4000000 in
set_option maxRecDepth 100000 in
theorem wnX12_readsFacet (Q Q' : XT → Prop) (hQ : (∀ (t : XT), Q t → Q' t)) : ∀ k k' : Nat, k ≤ k' → (∀ (t : XT) (li : Nat → Int32) (lj : Nat → Int64), wpX12_readsFacet k 0 t li lj Q → wpX12_readsFacet k' 0 t li lj Q') ∧ (∀ (t : XT) (li : Nat → Int32) (lj : Nat → Int64), wpX12_readsFacet k 1 t li lj Q → wpX12_readsFacet k' 1 t li lj Q') ∧ (∀ (t : XT) (li : Nat → Int32) (lj : Nat → Int64), wpX12_readsFacet k 2 t li lj Q → wpX12_readsFacet k' 2 t li lj Q') ∧ (∀ (t : XT) (li : Nat → Int32) (lj : Nat → Int64), wpX12_readsFacet k 3 t li lj Q → wpX12_readsFacet k' 3 t li lj Q') ∧ (∀ (t : XT) (li : Nat → Int32) (lj : Nat → Int64), wpX12_readsFacet k 4 t li lj Q → wpX12_readsFacet k' 4 t li lj Q') ∧ (∀ (t : XT) (li : Nat → Int32) (lj : Nat → Int64), wpX12_readsFacet k 5 t li lj Q → wpX12_readsFacet k' 5 t li lj Q') ∧ (∀ (t : XT) (li : Nat → Int32) (lj : Nat → Int64), wpX12_readsFacet k 6 t li lj Q → wpX12_readsFacet k' 6 t li lj Q') := by
  intro k
  induction k with
  | zero => intro k' _; exact ⟨fun _ _ _ hR => False.elim hR, fun _ _ _ hR => False.elim hR, fun _ _ _ hR => False.elim hR, fun _ _ _ hR => False.elim hR, fun _ _ _ hR => False.elim hR, fun _ _ _ hR => False.elim hR, fun _ _ _ hR => False.elim hR⟩
  | succ k ih =>
    intro k' hk
    cases k' with
    | zero => exact absurd hk (Nat.not_succ_le_zero k)
    | succ k' =>
      have hk := Nat.le_of_succ_le_succ hk
      have ihk := ih k' hk
      refine ⟨?_, ?_, ?_, ?_, ?_, ?_, ?_⟩
      · intro t li lj hR
        have hR : wbX12_readsFacet_0 (wpX12_readsFacet k) k t li lj Q := hR
        show wbX12_readsFacet_0 (wpX12_readsFacet k') k' t li lj Q'
        unfold wbX12_readsFacet_0 at hR ⊢
        exact wmX12_blanks hk (fun y9_0 h9 => wmX12_isLetter hk (fun y10_0 y10_1 h10 => ⟨fun c1 => ihk.2.1 _ _ _ (h10.1 c1), fun c1 => wmX12_fails hk (fun y11_0 h11 => ihk.2.1 _ _ _ h11) (h10.2 c1)⟩) h9) hR
      · intro t li lj hR
        have hR : wbX12_readsFacet_1 (wpX12_readsFacet k) k t li lj Q := hR
        show wbX12_readsFacet_1 (wpX12_readsFacet k') k' t li lj Q'
        unfold wbX12_readsFacet_1 at hR ⊢
        exact ⟨fun c2 => ihk.2.2.1 _ _ _ (hR.1 c2), fun c2 => wmX12_fails hk (fun y12_0 h12 => ihk.2.2.1 _ _ _ h12) (hR.2 c2)⟩
      · intro t li lj hR
        have hR : wbX12_readsFacet_2 (wpX12_readsFacet k) k t li lj Q := hR
        show wbX12_readsFacet_2 (wpX12_readsFacet k') k' t li lj Q'
        unfold wbX12_readsFacet_2 at hR ⊢
        exact wmX12_isRight hk (fun y13_0 y13_1 h13 => ⟨fun c5 => ihk.2.2.2.2.2.1 _ _ _ (h13.1 c5), fun c5 => wmX12_isLetter hk (fun y14_0 y14_1 h14 => ⟨fun c4 => ihk.2.2.2.2.2.1 _ _ _ (h14.1 c4), fun c4 => wmX12_byteNow hk (fun y15_0 y15_1 h15 => fun x16 e16 => fun x17 e17 => fun x18 e18 => ⟨fun c3 => ihk.2.2.2.1 _ _ _ ((((h15 x16 e16) x17 e17) x18 e18).1 c3), fun c3 => wmX12_fails hk (fun y19_0 h19 => ihk.2.2.2.1 _ _ _ h19) ((((h15 x16 e16) x17 e17) x18 e18).2 c3)⟩) (h14.2 c4)⟩) (h13.2 c5)⟩) hR
      · intro t li lj hR
        have hR : wbX12_readsFacet_3 (wpX12_readsFacet k) k t li lj Q := hR
        show wbX12_readsFacet_3 (wpX12_readsFacet k') k' t li lj Q'
        unfold wbX12_readsFacet_3 at hR ⊢
        exact wmJ6_bitCount_0f7a4 hk (fun y20_0 h20 => ⟨fun c6 => ihk.2.2.2.2.1 _ _ _ (h20.1 c6), fun c6 => wmX12_fails hk (fun y21_0 h21 => ihk.2.2.2.2.1 _ _ _ h21) (h20.2 c6)⟩) hR
      · intro t li lj hR
        have hR : wbX12_readsFacet_4 (wpX12_readsFacet k) k t li lj Q := hR
        show wbX12_readsFacet_4 (wpX12_readsFacet k') k' t li lj Q'
        unfold wbX12_readsFacet_4 at hR ⊢
        exact fun x22 e22 => fun x23 e23 => fun x24 e24 => ihk.2.2.1 _ _ _ (((hR x22 e22) x23 e23) x24 e24)
      · intro t li lj hR
        have hR : wbX12_readsFacet_5 (wpX12_readsFacet k) k t li lj Q := hR
        show wbX12_readsFacet_5 (wpX12_readsFacet k') k' t li lj Q'
        unfold wbX12_readsFacet_5 at hR ⊢
        exact wmX12_isRight hk (fun y25_0 y25_1 h25 => ⟨fun c8 => ihk.2.2.2.2.2.2 _ _ _ (h25.1 c8), fun c8 => wmX12_takesSets hk (fun y26_0 h26 => wmX12_toldMany hk (fun y27_0 y27_1 h27 => ⟨fun c7 => ihk.2.2.2.2.2.2 _ _ _ (h27.1 c7), fun c7 => wmX12_fails hk (fun y28_0 h28 => ihk.2.2.2.2.2.2 _ _ _ h28) (h27.2 c7)⟩) h26) (h25.2 c8)⟩) hR
      · intro t li lj hR
        have hR : wbX12_readsFacet_6 (wpX12_readsFacet k) k t li lj Q := hR
        show wbX12_readsFacet_6 (wpX12_readsFacet k') k' t li lj Q'
        unfold wbX12_readsFacet_6 at hR ⊢
        exact wmX12_blanks hk (fun y29_0 h29 => hQ _ h29) hR
theorem wmX12_readsFacet {k k' : Nat} {t : XT} {a1 : Int32} {Q Q' : XT → Prop} (hk : k ≤ k') (hQ : (∀ (t : XT), Q t → Q' t)) (hR : wqX12_readsFacet k t a1 Q) : wqX12_readsFacet k' t a1 Q' := (wnX12_readsFacet Q Q' hQ k k' hk).1 _ _ _ hR
set_option maxHeartbeats 4000000 in
set_option maxRecDepth 100000 in
theorem wnX12_numbers (Q Q' : XT → Prop) (hQ : (∀ (t : XT), Q t → Q' t)) : ∀ k k' : Nat, k ≤ k' → (∀ (t : XT) (li : Nat → Int32) (lj : Nat → Int64), wpX12_numbers k 0 t li lj Q → wpX12_numbers k' 0 t li lj Q') ∧ (∀ (t : XT) (li : Nat → Int32) (lj : Nat → Int64), wpX12_numbers k 1 t li lj Q → wpX12_numbers k' 1 t li lj Q') ∧ (∀ (t : XT) (li : Nat → Int32) (lj : Nat → Int64), wpX12_numbers k 2 t li lj Q → wpX12_numbers k' 2 t li lj Q') ∧ (∀ (t : XT) (li : Nat → Int32) (lj : Nat → Int64), wpX12_numbers k 3 t li lj Q → wpX12_numbers k' 3 t li lj Q') ∧ (∀ (t : XT) (li : Nat → Int32) (lj : Nat → Int64), wpX12_numbers k 4 t li lj Q → wpX12_numbers k' 4 t li lj Q') ∧ (∀ (t : XT) (li : Nat → Int32) (lj : Nat → Int64), wpX12_numbers k 5 t li lj Q → wpX12_numbers k' 5 t li lj Q') ∧ (∀ (t : XT) (li : Nat → Int32) (lj : Nat → Int64), wpX12_numbers k 6 t li lj Q → wpX12_numbers k' 6 t li lj Q') := by
  intro k
  induction k with
  | zero => intro k' _; exact ⟨fun _ _ _ hR => False.elim hR, fun _ _ _ hR => False.elim hR, fun _ _ _ hR => False.elim hR, fun _ _ _ hR => False.elim hR, fun _ _ _ hR => False.elim hR, fun _ _ _ hR => False.elim hR, fun _ _ _ hR => False.elim hR⟩
  | succ k ih =>
    intro k' hk
    cases k' with
    | zero => exact absurd hk (Nat.not_succ_le_zero k)
    | succ k' =>
      have hk := Nat.le_of_succ_le_succ hk
      have ihk := ih k' hk
      refine ⟨?_, ?_, ?_, ?_, ?_, ?_, ?_⟩
      · intro t li lj hR
        have hR : wbX12_numbers_0 (wpX12_numbers k) k t li lj Q := hR
        show wbX12_numbers_0 (wpX12_numbers k') k' t li lj Q'
        unfold wbX12_numbers_0 at hR ⊢
        exact fun x8 e8 => ihk.2.1 _ _ _ (hR x8 e8)
      · intro t li lj hR
        have hR : wbX12_numbers_1 (wpX12_numbers k) k t li lj Q := hR
        show wbX12_numbers_1 (wpX12_numbers k') k' t li lj Q'
        unfold wbX12_numbers_1 at hR ⊢
        exact ⟨fun c1 => ihk.2.2.2.2.1 _ _ _ (hR.1 c1), fun c1 => ihk.2.2.1 _ _ _ (hR.2 c1)⟩
      · intro t li lj hR
        have hR : wbX12_numbers_2 (wpX12_numbers k) k t li lj Q := hR
        show wbX12_numbers_2 (wpX12_numbers k') k' t li lj Q'
        unfold wbX12_numbers_2 at hR ⊢
        exact ⟨fun c4 => fun x9 e9 => ihk.2.1 _ _ _ ((hR.1 c4) x9 e9), fun c4 => ⟨(hR.2 c4).1, fun x10 e10 => ⟨fun c3 => ihk.2.2.2.1 _ _ _ (((hR.2 c4).2 x10 e10).1 c3), fun c3 => wmJ6_bitCount_0f7a4 hk (fun y11_0 h11 => ⟨fun c2 => ihk.2.2.2.1 _ _ _ (h11.1 c2), fun c2 => ⟨(h11.2 c2).1, fun x12 e12 => fun x13 e13 => fun x14 e14 => ihk.2.2.2.1 _ _ _ ((((h11.2 c2).2 x12 e12) x13 e13) x14 e14)⟩⟩) (((hR.2 c4).2 x10 e10).2 c3)⟩⟩⟩
      · intro t li lj hR
        have hR : wbX12_numbers_3 (wpX12_numbers k) k t li lj Q := hR
        show wbX12_numbers_3 (wpX12_numbers k') k' t li lj Q'
        unfold wbX12_numbers_3 at hR ⊢
        exact fun x15 e15 => ihk.2.2.1 _ _ _ (hR x15 e15)
      · intro t li lj hR
        have hR : wbX12_numbers_4 (wpX12_numbers k) k t li lj Q := hR
        show wbX12_numbers_4 (wpX12_numbers k') k' t li lj Q'
        unfold wbX12_numbers_4 at hR ⊢
        exact ⟨fun c5 => ihk.2.2.2.2.2.1 _ _ _ (hR.1 c5), fun c5 => ⟨(hR.2 c5).1, fun x16 e16 => fun x17 e17 => ihk.2.2.2.2.1 _ _ _ (((hR.2 c5).2 x16 e16) x17 e17)⟩⟩
      · intro t li lj hR
        have hR : wbX12_numbers_5 (wpX12_numbers k) k t li lj Q := hR
        show wbX12_numbers_5 (wpX12_numbers k') k' t li lj Q'
        unfold wbX12_numbers_5 at hR ⊢
        exact ⟨fun c6 => ihk.2.2.2.2.2.2 _ _ _ (hR.1 c6), fun c6 => ⟨(hR.2 c6).1, fun x18 e18 => ⟨((hR.2 c6).2 x18 e18).1, fun x19 e19 => ⟨(((hR.2 c6).2 x18 e18).2 x19 e19).1, fun x20 e20 => ⟨((((hR.2 c6).2 x18 e18).2 x19 e19).2 x20 e20).1, fun x21 e21 => fun x22 e22 => ihk.2.2.2.2.2.1 _ _ _ ((((((hR.2 c6).2 x18 e18).2 x19 e19).2 x20 e20).2 x21 e21) x22 e22)⟩⟩⟩⟩⟩
      · intro t li lj hR
        have hR : wbX12_numbers_6 (wpX12_numbers k) k t li lj Q := hR
        show wbX12_numbers_6 (wpX12_numbers k') k' t li lj Q'
        unfold wbX12_numbers_6 at hR ⊢
        exact ⟨fun c7 => fun x23 e23 => hQ _ ((hR.1 c7) x23 e23), fun c7 => ⟨(hR.2 c7).1, fun x24 e24 => fun x25 e25 => ihk.2.2.2.2.2.2 _ _ _ (((hR.2 c7).2 x24 e24) x25 e25)⟩⟩
theorem wmX12_numbers {k k' : Nat} {t : XT}  {Q Q' : XT → Prop} (hk : k ≤ k') (hQ : (∀ (t : XT), Q t → Q' t)) (hR : wqX12_numbers k t  Q) : wqX12_numbers k' t  Q' := (wnX12_numbers Q Q' hQ k k' hk).1 _ _ _ hR
set_option maxHeartbeats 4000000 in
set_option maxRecDepth 100000 in
theorem wnX12_complex (Q Q' : Int32 → XT → Prop) (hQ : (∀ (r : Int32) (t : XT), Q r t → Q' r t)) : ∀ k k' : Nat, k ≤ k' → (∀ (t : XT) (li : Nat → Int32) (lj : Nat → Int64), wpX12_complex k 0 t li lj Q → wpX12_complex k' 0 t li lj Q') ∧ (∀ (t : XT) (li : Nat → Int32) (lj : Nat → Int64), wpX12_complex k 1 t li lj Q → wpX12_complex k' 1 t li lj Q') ∧ (∀ (t : XT) (li : Nat → Int32) (lj : Nat → Int64), wpX12_complex k 2 t li lj Q → wpX12_complex k' 2 t li lj Q') ∧ (∀ (t : XT) (li : Nat → Int32) (lj : Nat → Int64), wpX12_complex k 3 t li lj Q → wpX12_complex k' 3 t li lj Q') ∧ (∀ (t : XT) (li : Nat → Int32) (lj : Nat → Int64), wpX12_complex k 4 t li lj Q → wpX12_complex k' 4 t li lj Q') ∧ (∀ (t : XT) (li : Nat → Int32) (lj : Nat → Int64), wpX12_complex k 5 t li lj Q → wpX12_complex k' 5 t li lj Q') := by
  intro k
  induction k with
  | zero => intro k' _; exact ⟨fun _ _ _ hR => False.elim hR, fun _ _ _ hR => False.elim hR, fun _ _ _ hR => False.elim hR, fun _ _ _ hR => False.elim hR, fun _ _ _ hR => False.elim hR, fun _ _ _ hR => False.elim hR⟩
  | succ k ih =>
    intro k' hk
    cases k' with
    | zero => exact absurd hk (Nat.not_succ_le_zero k)
    | succ k' =>
      have hk := Nat.le_of_succ_le_succ hk
      have ihk := ih k' hk
      refine ⟨?_, ?_, ?_, ?_, ?_, ?_⟩
      · intro t li lj hR
        have hR : wbX12_complex_0 (wpX12_complex k) k t li lj Q := hR
        show wbX12_complex_0 (wpX12_complex k') k' t li lj Q'
        unfold wbX12_complex_0 at hR ⊢
        exact fun x8 e8 => fun x9 e9 => ihk.2.1 _ _ _ ((hR x8 e8) x9 e9)
      · intro t li lj hR
        have hR : wbX12_complex_1 (wpX12_complex k) k t li lj Q := hR
        show wbX12_complex_1 (wpX12_complex k') k' t li lj Q'
        unfold wbX12_complex_1 at hR ⊢
        exact ⟨fun c1 => ihk.2.2.1 _ _ _ (hR.1 c1), fun c1 => ⟨(hR.2 c1).1, fun x10 e10 => fun x11 e11 => ihk.2.1 _ _ _ (((hR.2 c1).2 x10 e10) x11 e11)⟩⟩
      · intro t li lj hR
        have hR : wbX12_complex_2 (wpX12_complex k) k t li lj Q := hR
        show wbX12_complex_2 (wpX12_complex k') k' t li lj Q'
        unfold wbX12_complex_2 at hR ⊢
        exact ⟨fun c6 => wmX12_isRight hk (fun y12_0 y12_1 h12 => ⟨fun c3 => ihk.2.2.2.2.2 _ _ _ (h12.1 c3), fun c3 => wmX12_byteNow hk (fun y13_0 y13_1 h13 => ⟨fun c2 => ihk.2.2.2.2.2 _ _ _ (h13.1 c2), fun c2 => wmX12_fails hk (fun y14_0 h14 => ihk.2.2.2.2.2 _ _ _ h14) (h13.2 c2)⟩) (h12.2 c3)⟩) (hR.1 c6), fun c6 => wmX12_readsFacet hk (fun y15_0 h15 => fun x16 e16 => wmX12_isRight hk (fun y17_0 y17_1 h17 => ⟨fun c5 => ihk.2.2.2.1 _ _ _ (h17.1 c5), fun c5 => wmX12_byteNow hk (fun y18_0 y18_1 h18 => ⟨fun c4 => ihk.2.2.2.1 _ _ _ (h18.1 c4), fun c4 => ihk.2.2.2.2.1 _ _ _ (h18.2 c4)⟩) (h17.2 c5)⟩) (h15 x16 e16)) (hR.2 c6)⟩
      · intro t li lj hR
        have hR : wbX12_complex_3 (wpX12_complex k) k t li lj Q := hR
        show wbX12_complex_3 (wpX12_complex k') k' t li lj Q'
        unfold wbX12_complex_3 at hR ⊢
        exact ihk.2.2.2.2.1 _ _ _ hR
      · intro t li lj hR
        have hR : wbX12_complex_4 (wpX12_complex k) k t li lj Q := hR
        show wbX12_complex_4 (wpX12_complex k') k' t li lj Q'
        unfold wbX12_complex_4 at hR ⊢
        exact wmX12_truth hk (fun y19_0 h19 => fun x20 e20 => fun x21 e21 => ihk.2.2.1 _ _ _ ((h19 x20 e20) x21 e21)) hR
      · intro t li lj hR
        have hR : wbX12_complex_5 (wpX12_complex k) k t li lj Q := hR
        show wbX12_complex_5 (wpX12_complex k') k' t li lj Q'
        unfold wbX12_complex_5 at hR ⊢
        exact fun x22 e22 => wmX12_isRight hk (fun y23_0 y23_1 h23 => ⟨fun c7 => wmX12_numbers hk (fun y24_0 h24 => hQ _ _ h24) (h23.1 c7), fun c7 => fun x25 e25 => hQ _ _ ((h23.2 c7) x25 e25)⟩) (hR x22 e22)
theorem wmX12_complex {k k' : Nat} {t : XT}  {Q Q' : Int32 → XT → Prop} (hk : k ≤ k') (hQ : (∀ (r : Int32) (t : XT), Q r t → Q' r t)) (hR : wqX12_complex k t  Q) : wqX12_complex k' t  Q' := (wnX12_complex Q Q' hQ k k' hk).1 _ _ _ hR
set_option maxHeartbeats 4000000 in
set_option maxRecDepth 100000 in
theorem wnX12_isSimplex (Q Q' : Int32 → XT → Prop) (hQ : (∀ (r : Int32) (t : XT), Q r t → Q' r t)) : ∀ k k' : Nat, k ≤ k' → (∀ (t : XT) (li : Nat → Int32) (lj : Nat → Int64), wpX12_isSimplex k 0 t li lj Q → wpX12_isSimplex k' 0 t li lj Q') := by
  intro k
  induction k with
  | zero => intro k' _; exact fun _ _ _ hR => False.elim hR
  | succ k ih =>
    intro k' hk
    cases k' with
    | zero => exact absurd hk (Nat.not_succ_le_zero k)
    | succ k' =>
      have hk := Nat.le_of_succ_le_succ hk
      have ihk := ih k' hk
      intro t li lj hR
      have hR : wbX12_isSimplex_0 (wpX12_isSimplex k) k t li lj Q := hR
      show wbX12_isSimplex_0 (wpX12_isSimplex k') k' t li lj Q'
      unfold wbX12_isSimplex_0 at hR ⊢
      exact fun x1 e1 => wmX12_in hk (fun y2_0 h2 => ⟨h2.1, hQ _ _ h2.2⟩) (hR x1 e1)
theorem wmX12_isSimplex {k k' : Nat} {t : XT} {a1 : Int32} {Q Q' : Int32 → XT → Prop} (hk : k ≤ k') (hQ : (∀ (r : Int32) (t : XT), Q r t → Q' r t)) (hR : wqX12_isSimplex k t a1 Q) : wqX12_isSimplex k' t a1 Q' := (wnX12_isSimplex Q Q' hQ k k' hk) _ _ _ hR
set_option maxHeartbeats 4000000 in
set_option maxRecDepth 100000 in
theorem wnX12_dimOf (Q Q' : Int32 → XT → Prop) (hQ : (∀ (r : Int32) (t : XT), Q r t → Q' r t)) : ∀ k k' : Nat, k ≤ k' → (∀ (t : XT) (li : Nat → Int32) (lj : Nat → Int64), wpX12_dimOf k 0 t li lj Q → wpX12_dimOf k' 0 t li lj Q') := by
  intro k
  induction k with
  | zero => intro k' _; exact fun _ _ _ hR => False.elim hR
  | succ k ih =>
    intro k' hk
    cases k' with
    | zero => exact absurd hk (Nat.not_succ_le_zero k)
    | succ k' =>
      have hk := Nat.le_of_succ_le_succ hk
      have ihk := ih k' hk
      intro t li lj hR
      have hR : wbX12_dimOf_0 (wpX12_dimOf k) k t li lj Q := hR
      show wbX12_dimOf_0 (wpX12_dimOf k') k' t li lj Q'
      unfold wbX12_dimOf_0 at hR ⊢
      exact ⟨hR.1, fun x1 e1 => wmJ6_bitCount_0f7a4 hk (fun y2_0 h2 => fun x3 e3 => hQ _ _ (h2 x3 e3)) (hR.2 x1 e1)⟩
theorem wmX12_dimOf {k k' : Nat} {t : XT} {a1 : Int32} {Q Q' : Int32 → XT → Prop} (hk : k ≤ k') (hQ : (∀ (r : Int32) (t : XT), Q r t → Q' r t)) (hR : wqX12_dimOf k t a1 Q) : wqX12_dimOf k' t a1 Q' := (wnX12_dimOf Q Q' hQ k k' hk) _ _ _ hR
set_option maxHeartbeats 4000000 in
set_option maxRecDepth 100000 in
theorem wnX12_isLower (Q Q' : Int32 → XT → Prop) (hQ : (∀ (r : Int32) (t : XT), Q r t → Q' r t)) : ∀ k k' : Nat, k ≤ k' → (∀ (t : XT) (li : Nat → Int32) (lj : Nat → Int64), wpX12_isLower k 0 t li lj Q → wpX12_isLower k' 0 t li lj Q') ∧ (∀ (t : XT) (li : Nat → Int32) (lj : Nat → Int64), wpX12_isLower k 1 t li lj Q → wpX12_isLower k' 1 t li lj Q') := by
  intro k
  induction k with
  | zero => intro k' _; exact ⟨fun _ _ _ hR => False.elim hR, fun _ _ _ hR => False.elim hR⟩
  | succ k ih =>
    intro k' hk
    cases k' with
    | zero => exact absurd hk (Nat.not_succ_le_zero k)
    | succ k' =>
      have hk := Nat.le_of_succ_le_succ hk
      have ihk := ih k' hk
      refine ⟨?_, ?_⟩
      · intro t li lj hR
        have hR : wbX12_isLower_0 (wpX12_isLower k) k t li lj Q := hR
        show wbX12_isLower_0 (wpX12_isLower k') k' t li lj Q'
        unfold wbX12_isLower_0 at hR ⊢
        exact ⟨hR.1, fun x3 e3 => ⟨fun c2 => ihk.2 _ _ _ ((hR.2 x3 e3).1 c2), fun c2 => ⟨((hR.2 x3 e3).2 c2).1, fun x4 e4 => ⟨fun c1 => ihk.2 _ _ _ ((((hR.2 x3 e3).2 c2).2 x4 e4).1 c1), fun c1 => hQ _ _ ((((hR.2 x3 e3).2 c2).2 x4 e4).2 c1)⟩⟩⟩⟩
      · intro t li lj hR
        have hR : wbX12_isLower_1 (wpX12_isLower k) k t li lj Q := hR
        show wbX12_isLower_1 (wpX12_isLower k') k' t li lj Q'
        unfold wbX12_isLower_1 at hR ⊢
        exact hQ _ _ hR
theorem wmX12_isLower {k k' : Nat} {t : XT} {a1 : Int32} {Q Q' : Int32 → XT → Prop} (hk : k ≤ k') (hQ : (∀ (r : Int32) (t : XT), Q r t → Q' r t)) (hR : wqX12_isLower k t a1 Q) : wqX12_isLower k' t a1 Q' := (wnX12_isLower Q Q' hQ k k' hk).1 _ _ _ hR
set_option maxHeartbeats 4000000 in
set_option maxRecDepth 100000 in
theorem wnX12_isFace (Q Q' : Int32 → XT → Prop) (hQ : (∀ (r : Int32) (t : XT), Q r t → Q' r t)) : ∀ k k' : Nat, k ≤ k' → (∀ (t : XT) (li : Nat → Int32) (lj : Nat → Int64), wpX12_isFace k 0 t li lj Q → wpX12_isFace k' 0 t li lj Q') ∧ (∀ (t : XT) (li : Nat → Int32) (lj : Nat → Int64), wpX12_isFace k 1 t li lj Q → wpX12_isFace k' 1 t li lj Q') := by
  intro k
  induction k with
  | zero => intro k' _; exact ⟨fun _ _ _ hR => False.elim hR, fun _ _ _ hR => False.elim hR⟩
  | succ k ih =>
    intro k' hk
    cases k' with
    | zero => exact absurd hk (Nat.not_succ_le_zero k)
    | succ k' =>
      have hk := Nat.le_of_succ_le_succ hk
      have ihk := ih k' hk
      refine ⟨?_, ?_⟩
      · intro t li lj hR
        have hR : wbX12_isFace_0 (wpX12_isFace k) k t li lj Q := hR
        show wbX12_isFace_0 (wpX12_isFace k') k' t li lj Q'
        unfold wbX12_isFace_0 at hR ⊢
        exact wmX12_dimOf hk (fun y3_0 y3_1 h3 => wmX12_dimOf hk (fun y4_0 y4_1 h4 => fun x5 e5 => ⟨fun c2 => ihk.2 _ _ _ ((h4 x5 e5).1 c2), fun c2 => ⟨((h4 x5 e5).2 c2).1, fun x6 e6 => ⟨(((h4 x5 e5).2 c2).2 x6 e6).1, fun x7 e7 => fun x8 e8 => fun x9 e9 => ⟨fun c1 => ihk.2 _ _ _ (((((((h4 x5 e5).2 c2).2 x6 e6).2 x7 e7) x8 e8) x9 e9).1 c1), fun c1 => hQ _ _ (((((((h4 x5 e5).2 c2).2 x6 e6).2 x7 e7) x8 e8) x9 e9).2 c1)⟩⟩⟩⟩) h3) hR
      · intro t li lj hR
        have hR : wbX12_isFace_1 (wpX12_isFace k) k t li lj Q := hR
        show wbX12_isFace_1 (wpX12_isFace k') k' t li lj Q'
        unfold wbX12_isFace_1 at hR ⊢
        exact hQ _ _ hR
theorem wmX12_isFace {k k' : Nat} {t : XT} {a1 : Int32} {a2 : Int32} {Q Q' : Int32 → XT → Prop} (hk : k ≤ k') (hQ : (∀ (r : Int32) (t : XT), Q r t → Q' r t)) (hR : wqX12_isFace k t a1 a2 Q) : wqX12_isFace k' t a1 a2 Q' := (wnX12_isFace Q Q' hQ k k' hk).1 _ _ _ hR
set_option maxHeartbeats 4000000 in
set_option maxRecDepth 100000 in
theorem wnX12_isFaceThere (Q Q' : Int32 → XT → Prop) (hQ : (∀ (r : Int32) (t : XT), Q r t → Q' r t)) : ∀ k k' : Nat, k ≤ k' → (∀ (t : XT) (li : Nat → Int32) (lj : Nat → Int64), wpX12_isFaceThere k 0 t li lj Q → wpX12_isFaceThere k' 0 t li lj Q') ∧ (∀ (t : XT) (li : Nat → Int32) (lj : Nat → Int64), wpX12_isFaceThere k 1 t li lj Q → wpX12_isFaceThere k' 1 t li lj Q') := by
  intro k
  induction k with
  | zero => intro k' _; exact ⟨fun _ _ _ hR => False.elim hR, fun _ _ _ hR => False.elim hR⟩
  | succ k ih =>
    intro k' hk
    cases k' with
    | zero => exact absurd hk (Nat.not_succ_le_zero k)
    | succ k' =>
      have hk := Nat.le_of_succ_le_succ hk
      have ihk := ih k' hk
      refine ⟨?_, ?_⟩
      · intro t li lj hR
        have hR : wbX12_isFaceThere_0 (wpX12_isFaceThere k) k t li lj Q := hR
        show wbX12_isFaceThere_0 (wpX12_isFaceThere k') k' t li lj Q'
        unfold wbX12_isFaceThere_0 at hR ⊢
        exact ⟨hR.1, fun x4 e4 => ⟨fun c3 => ihk.2 _ _ _ ((hR.2 x4 e4).1 c3), fun c3 => ⟨((hR.2 x4 e4).2 c3).1, fun x5 e5 => ⟨fun c2 => ihk.2 _ _ _ ((((hR.2 x4 e4).2 c3).2 x5 e5).1 c2), fun c2 => wmX12_isFace hk (fun y6_0 y6_1 h6 => ⟨fun c1 => ihk.2 _ _ _ (h6.1 c1), fun c1 => hQ _ _ (h6.2 c1)⟩) ((((hR.2 x4 e4).2 c3).2 x5 e5).2 c2)⟩⟩⟩⟩
      · intro t li lj hR
        have hR : wbX12_isFaceThere_1 (wpX12_isFaceThere k) k t li lj Q := hR
        show wbX12_isFaceThere_1 (wpX12_isFaceThere k') k' t li lj Q'
        unfold wbX12_isFaceThere_1 at hR ⊢
        exact hQ _ _ hR
theorem wmX12_isFaceThere {k k' : Nat} {t : XT} {a1 : Int32} {a2 : Int32} {Q Q' : Int32 → XT → Prop} (hk : k ≤ k') (hQ : (∀ (r : Int32) (t : XT), Q r t → Q' r t)) (hR : wqX12_isFaceThere k t a1 a2 Q) : wqX12_isFaceThere k' t a1 a2 Q' := (wnX12_isFaceThere Q Q' hQ k k' hk).1 _ _ _ hR
set_option maxHeartbeats 4000000 in
set_option maxRecDepth 100000 in
theorem wnX12_laysHeights (Q Q' : XT → Prop) (hQ : (∀ (t : XT), Q t → Q' t)) : ∀ k k' : Nat, k ≤ k' → (∀ (t : XT) (li : Nat → Int32) (lj : Nat → Int64), wpX12_laysHeights k 0 t li lj Q → wpX12_laysHeights k' 0 t li lj Q') ∧ (∀ (t : XT) (li : Nat → Int32) (lj : Nat → Int64), wpX12_laysHeights k 1 t li lj Q → wpX12_laysHeights k' 1 t li lj Q') ∧ (∀ (t : XT) (li : Nat → Int32) (lj : Nat → Int64), wpX12_laysHeights k 2 t li lj Q → wpX12_laysHeights k' 2 t li lj Q') ∧ (∀ (t : XT) (li : Nat → Int32) (lj : Nat → Int64), wpX12_laysHeights k 3 t li lj Q → wpX12_laysHeights k' 3 t li lj Q') ∧ (∀ (t : XT) (li : Nat → Int32) (lj : Nat → Int64), wpX12_laysHeights k 4 t li lj Q → wpX12_laysHeights k' 4 t li lj Q') ∧ (∀ (t : XT) (li : Nat → Int32) (lj : Nat → Int64), wpX12_laysHeights k 5 t li lj Q → wpX12_laysHeights k' 5 t li lj Q') ∧ (∀ (t : XT) (li : Nat → Int32) (lj : Nat → Int64), wpX12_laysHeights k 6 t li lj Q → wpX12_laysHeights k' 6 t li lj Q') ∧ (∀ (t : XT) (li : Nat → Int32) (lj : Nat → Int64), wpX12_laysHeights k 7 t li lj Q → wpX12_laysHeights k' 7 t li lj Q') ∧ (∀ (t : XT) (li : Nat → Int32) (lj : Nat → Int64), wpX12_laysHeights k 8 t li lj Q → wpX12_laysHeights k' 8 t li lj Q') ∧ (∀ (t : XT) (li : Nat → Int32) (lj : Nat → Int64), wpX12_laysHeights k 9 t li lj Q → wpX12_laysHeights k' 9 t li lj Q') ∧ (∀ (t : XT) (li : Nat → Int32) (lj : Nat → Int64), wpX12_laysHeights k 10 t li lj Q → wpX12_laysHeights k' 10 t li lj Q') := by
  intro k
  induction k with
  | zero => intro k' _; exact ⟨fun _ _ _ hR => False.elim hR, fun _ _ _ hR => False.elim hR, fun _ _ _ hR => False.elim hR, fun _ _ _ hR => False.elim hR, fun _ _ _ hR => False.elim hR, fun _ _ _ hR => False.elim hR, fun _ _ _ hR => False.elim hR, fun _ _ _ hR => False.elim hR, fun _ _ _ hR => False.elim hR, fun _ _ _ hR => False.elim hR, fun _ _ _ hR => False.elim hR⟩
  | succ k ih =>
    intro k' hk
    cases k' with
    | zero => exact absurd hk (Nat.not_succ_le_zero k)
    | succ k' =>
      have hk := Nat.le_of_succ_le_succ hk
      have ihk := ih k' hk
      refine ⟨?_, ?_, ?_, ?_, ?_, ?_, ?_, ?_, ?_, ?_, ?_⟩
      · intro t li lj hR
        have hR : wbX12_laysHeights_0 (wpX12_laysHeights k) k t li lj Q := hR
        show wbX12_laysHeights_0 (wpX12_laysHeights k') k' t li lj Q'
        unfold wbX12_laysHeights_0 at hR ⊢
        exact ihk.2.1 _ _ _ hR
      · intro t li lj hR
        have hR : wbX12_laysHeights_1 (wpX12_laysHeights k) k t li lj Q := hR
        show wbX12_laysHeights_1 (wpX12_laysHeights k') k' t li lj Q'
        unfold wbX12_laysHeights_1 at hR ⊢
        exact ⟨fun c1 => ihk.2.2.1 _ _ _ (hR.1 c1), fun c1 => ⟨(hR.2 c1).1, fun x12 e12 => fun x13 e13 => ihk.2.1 _ _ _ (((hR.2 c1).2 x12 e12) x13 e13)⟩⟩
      · intro t li lj hR
        have hR : wbX12_laysHeights_2 (wpX12_laysHeights k) k t li lj Q := hR
        show wbX12_laysHeights_2 (wpX12_laysHeights k') k' t li lj Q'
        unfold wbX12_laysHeights_2 at hR ⊢
        exact ⟨fun c2 => hQ _ (hR.1 c2), fun c2 => ihk.2.2.2.1 _ _ _ (hR.2 c2)⟩
      · intro t li lj hR
        have hR : wbX12_laysHeights_3 (wpX12_laysHeights k) k t li lj Q := hR
        show wbX12_laysHeights_3 (wpX12_laysHeights k') k' t li lj Q'
        unfold wbX12_laysHeights_3 at hR ⊢
        exact ⟨fun c3 => ihk.2.2.1 _ _ _ (hR.1 c3), fun c3 => ihk.2.2.2.2.1 _ _ _ (hR.2 c3)⟩
      · intro t li lj hR
        have hR : wbX12_laysHeights_4 (wpX12_laysHeights k) k t li lj Q := hR
        show wbX12_laysHeights_4 (wpX12_laysHeights k') k' t li lj Q'
        unfold wbX12_laysHeights_4 at hR ⊢
        exact ⟨fun c6 => fun x14 e14 => ihk.2.2.2.1 _ _ _ ((hR.1 c6) x14 e14), fun c6 => wmX12_isFaceThere hk (fun y15_0 y15_1 h15 => ⟨fun c5 => ihk.2.2.2.2.2.1 _ _ _ (h15.1 c5), fun c5 => ⟨(h15.2 c5).1, fun x16 e16 => ⟨fun c4 => ihk.2.2.2.2.2.1 _ _ _ (((h15.2 c5).2 x16 e16).1 c4), fun c4 => ihk.2.2.2.2.2.2.1 _ _ _ (((h15.2 c5).2 x16 e16).2 c4)⟩⟩⟩) (hR.2 c6)⟩
      · intro t li lj hR
        have hR : wbX12_laysHeights_5 (wpX12_laysHeights k) k t li lj Q := hR
        show wbX12_laysHeights_5 (wpX12_laysHeights k') k' t li lj Q'
        unfold wbX12_laysHeights_5 at hR ⊢
        exact ihk.2.2.2.2.2.2.1 _ _ _ hR
      · intro t li lj hR
        have hR : wbX12_laysHeights_6 (wpX12_laysHeights k) k t li lj Q := hR
        show wbX12_laysHeights_6 (wpX12_laysHeights k') k' t li lj Q'
        unfold wbX12_laysHeights_6 at hR ⊢
        exact wmX12_isFaceThere hk (fun y17_0 y17_1 h17 => ⟨fun c8 => ihk.2.2.2.2.2.2.2.1 _ _ _ (h17.1 c8), fun c8 => ⟨(h17.2 c8).1, fun x18 e18 => ⟨fun c7 => ihk.2.2.2.2.2.2.2.1 _ _ _ (((h17.2 c8).2 x18 e18).1 c7), fun c7 => ihk.2.2.2.2.2.2.2.2.1 _ _ _ (((h17.2 c8).2 x18 e18).2 c7)⟩⟩⟩) hR
      · intro t li lj hR
        have hR : wbX12_laysHeights_7 (wpX12_laysHeights k) k t li lj Q := hR
        show wbX12_laysHeights_7 (wpX12_laysHeights k') k' t li lj Q'
        unfold wbX12_laysHeights_7 at hR ⊢
        exact ihk.2.2.2.2.2.2.2.2.1 _ _ _ hR
      · intro t li lj hR
        have hR : wbX12_laysHeights_8 (wpX12_laysHeights k) k t li lj Q := hR
        show wbX12_laysHeights_8 (wpX12_laysHeights k') k' t li lj Q'
        unfold wbX12_laysHeights_8 at hR ⊢
        exact ⟨fun c10 => ihk.2.2.2.2.2.2.2.2.2.1 _ _ _ (hR.1 c10), fun c10 => ⟨fun c9 => ihk.2.2.2.2.2.2.2.2.2.2 _ _ _ ((hR.2 c10).1 c9), fun c9 => ihk.2.2.2.2.2.2.2.2.2.1 _ _ _ ((hR.2 c10).2 c9)⟩⟩
      · intro t li lj hR
        have hR : wbX12_laysHeights_9 (wpX12_laysHeights k) k t li lj Q := hR
        show wbX12_laysHeights_9 (wpX12_laysHeights k') k' t li lj Q'
        unfold wbX12_laysHeights_9 at hR ⊢
        exact ⟨hR.1, fun x19 e19 => ⟨(hR.2 x19 e19).1, fun x20 e20 => fun x21 e21 => ⟨fun c11 => ihk.2.2.2.2.2.2.2.2.2.2 _ _ _ ((((hR.2 x19 e19).2 x20 e20) x21 e21).1 c11), fun c11 => ⟨((((hR.2 x19 e19).2 x20 e20) x21 e21).2 c11).1, fun x22 e22 => fun x23 e23 => ⟨((((((hR.2 x19 e19).2 x20 e20) x21 e21).2 c11).2 x22 e22) x23 e23).1, fun x24 e24 => ihk.2.2.2.2.2.2.2.2.2.2 _ _ _ (((((((hR.2 x19 e19).2 x20 e20) x21 e21).2 c11).2 x22 e22) x23 e23).2 x24 e24)⟩⟩⟩⟩⟩
      · intro t li lj hR
        have hR : wbX12_laysHeights_10 (wpX12_laysHeights k) k t li lj Q := hR
        show wbX12_laysHeights_10 (wpX12_laysHeights k') k' t li lj Q'
        unfold wbX12_laysHeights_10 at hR ⊢
        exact fun x25 e25 => ihk.2.2.2.2.1 _ _ _ (hR x25 e25)
theorem wmX12_laysHeights {k k' : Nat} {t : XT}  {Q Q' : XT → Prop} (hk : k ≤ k') (hQ : (∀ (t : XT), Q t → Q' t)) (hR : wqX12_laysHeights k t  Q) : wqX12_laysHeights k' t  Q' := (wnX12_laysHeights Q Q' hQ k k' hk).1 _ _ _ hR
set_option maxHeartbeats 4000000 in
set_option maxRecDepth 100000 in
theorem wnX12_facesOver (Q Q' : Int32 → XT → Prop) (hQ : (∀ (r : Int32) (t : XT), Q r t → Q' r t)) : ∀ k k' : Nat, k ≤ k' → (∀ (t : XT) (li : Nat → Int32) (lj : Nat → Int64), wpX12_facesOver k 0 t li lj Q → wpX12_facesOver k' 0 t li lj Q') ∧ (∀ (t : XT) (li : Nat → Int32) (lj : Nat → Int64), wpX12_facesOver k 1 t li lj Q → wpX12_facesOver k' 1 t li lj Q') := by
  intro k
  induction k with
  | zero => intro k' _; exact ⟨fun _ _ _ hR => False.elim hR, fun _ _ _ hR => False.elim hR⟩
  | succ k ih =>
    intro k' hk
    cases k' with
    | zero => exact absurd hk (Nat.not_succ_le_zero k)
    | succ k' =>
      have hk := Nat.le_of_succ_le_succ hk
      have ihk := ih k' hk
      refine ⟨?_, ?_⟩
      · intro t li lj hR
        have hR : wbX12_facesOver_0 (wpX12_facesOver k) k t li lj Q := hR
        show wbX12_facesOver_0 (wpX12_facesOver k') k' t li lj Q'
        unfold wbX12_facesOver_0 at hR ⊢
        exact ihk.2 _ _ _ hR
      · intro t li lj hR
        have hR : wbX12_facesOver_1 (wpX12_facesOver k) k t li lj Q := hR
        show wbX12_facesOver_1 (wpX12_facesOver k') k' t li lj Q'
        unfold wbX12_facesOver_1 at hR ⊢
        exact ⟨fun c1 => hQ _ _ (hR.1 c1), fun c1 => wmX12_isFaceThere hk (fun y2_0 y2_1 h2 => wmX12_truth hk (fun y3_0 h3 => fun x4 e4 => fun x5 e5 => ihk.2 _ _ _ ((h3 x4 e4) x5 e5)) h2) (hR.2 c1)⟩
theorem wmX12_facesOver {k k' : Nat} {t : XT} {a1 : Int32} {Q Q' : Int32 → XT → Prop} (hk : k ≤ k') (hQ : (∀ (r : Int32) (t : XT), Q r t → Q' r t)) (hR : wqX12_facesOver k t a1 Q) : wqX12_facesOver k' t a1 Q' := (wnX12_facesOver Q Q' hQ k k' hk).1 _ _ _ hR
set_option maxHeartbeats 4000000 in
set_option maxRecDepth 100000 in
theorem wnX12_simplex (Q Q' : Int32 → XT → Prop) (hQ : (∀ (r : Int32) (t : XT), Q r t → Q' r t)) : ∀ k k' : Nat, k ≤ k' → (∀ (t : XT) (li : Nat → Int32) (lj : Nat → Int64), wpX12_simplex k 0 t li lj Q → wpX12_simplex k' 0 t li lj Q') ∧ (∀ (t : XT) (li : Nat → Int32) (lj : Nat → Int64), wpX12_simplex k 1 t li lj Q → wpX12_simplex k' 1 t li lj Q') := by
  intro k
  induction k with
  | zero => intro k' _; exact ⟨fun _ _ _ hR => False.elim hR, fun _ _ _ hR => False.elim hR⟩
  | succ k ih =>
    intro k' hk
    cases k' with
    | zero => exact absurd hk (Nat.not_succ_le_zero k)
    | succ k' =>
      have hk := Nat.le_of_succ_le_succ hk
      have ihk := ih k' hk
      refine ⟨?_, ?_⟩
      · intro t li lj hR
        have hR : wbX12_simplex_0 (wpX12_simplex k) k t li lj Q := hR
        show wbX12_simplex_0 (wpX12_simplex k') k' t li lj Q'
        unfold wbX12_simplex_0 at hR ⊢
        exact wmX12_isSimplex hk (fun y6_0 y6_1 h6 => ⟨fun c5 => ⟨fun c4 => hQ _ _ ((h6.1 c5).1 c4), fun c4 => ⟨((h6.1 c5).2.1 c4).1, fun x7 e7 => hQ _ _ (((h6.1 c5).2.1 c4).2 x7 e7)⟩, fun c4 => wmX12_dimOf hk (fun y8_0 y8_1 h8 => hQ _ _ h8) ((h6.1 c5).2.2.1 c4), fun c4 => ⟨((h6.1 c5).2.2.2.1 c4).1, fun x9 e9 => ⟨fun c1 => ihk.2 _ _ _ ((((h6.1 c5).2.2.2.1 c4).2 x9 e9).1 c1), fun c1 => ihk.2 _ _ _ ((((h6.1 c5).2.2.2.1 c4).2 x9 e9).2 c1)⟩⟩, fun c4 => ⟨((h6.1 c5).2.2.2.2.1 c4).1, fun x10 e10 => hQ _ _ (((h6.1 c5).2.2.2.2.1 c4).2 x10 e10)⟩, fun c4 => ⟨((h6.1 c5).2.2.2.2.2.1 c4).1, fun x11 e11 => ⟨fun c2 => wmX12_isLower hk (fun y12_0 y12_1 h12 => wmX12_truth hk (fun y13_0 h13 => hQ _ _ h13) h12) ((((h6.1 c5).2.2.2.2.2.1 c4).2 x11 e11).1 c2), fun c2 => hQ _ _ ((((h6.1 c5).2.2.2.2.2.1 c4).2 x11 e11).2 c2)⟩⟩, fun c4 => ⟨((h6.1 c5).2.2.2.2.2.2.1 c4).1, fun x14 e14 => ⟨fun c3 => wmX12_laysHeights hk (fun y15_0 h15 => ⟨h15.1, fun x16 e16 => hQ _ _ (h15.2 x16 e16)⟩) ((((h6.1 c5).2.2.2.2.2.2.1 c4).2 x14 e14).1 c3), fun c3 => hQ _ _ ((((h6.1 c5).2.2.2.2.2.2.1 c4).2 x14 e14).2 c3)⟩⟩, fun c4 => wmX12_facesOver hk (fun y17_0 y17_1 h17 => hQ _ _ h17) ((h6.1 c5).2.2.2.2.2.2.2 c4)⟩, fun c5 => hQ _ _ (h6.2 c5)⟩) hR
      · intro t li lj hR
        have hR : wbX12_simplex_1 (wpX12_simplex k) k t li lj Q := hR
        show wbX12_simplex_1 (wpX12_simplex k') k' t li lj Q'
        unfold wbX12_simplex_1 at hR ⊢
        exact wmX12_truth hk (fun y18_0 h18 => hQ _ _ h18) hR
theorem wmX12_simplex {k k' : Nat} {t : XT} {a1 : Int32} {a2 : Int32} {Q Q' : Int32 → XT → Prop} (hk : k ≤ k') (hQ : (∀ (r : Int32) (t : XT), Q r t → Q' r t)) (hR : wqX12_simplex k t a1 a2 Q) : wqX12_simplex k' t a1 a2 Q' := (wnX12_simplex Q Q' hQ k k' hk).1 _ _ _ hR
set_option maxHeartbeats 4000000 in
set_option maxRecDepth 100000 in
theorem wnX12_number (Q Q' : Int32 → XT → Prop) (hQ : (∀ (r : Int32) (t : XT), Q r t → Q' r t)) : ∀ k k' : Nat, k ≤ k' → (∀ (t : XT) (li : Nat → Int32) (lj : Nat → Int64), wpX12_number k 0 t li lj Q → wpX12_number k' 0 t li lj Q') ∧ (∀ (t : XT) (li : Nat → Int32) (lj : Nat → Int64), wpX12_number k 1 t li lj Q → wpX12_number k' 1 t li lj Q') := by
  intro k
  induction k with
  | zero => intro k' _; exact ⟨fun _ _ _ hR => False.elim hR, fun _ _ _ hR => False.elim hR⟩
  | succ k ih =>
    intro k' hk
    cases k' with
    | zero => exact absurd hk (Nat.not_succ_le_zero k)
    | succ k' =>
      have hk := Nat.le_of_succ_le_succ hk
      have ihk := ih k' hk
      refine ⟨?_, ?_⟩
      · intro t li lj hR
        have hR : wbX12_number_0 (wpX12_number k) k t li lj Q := hR
        show wbX12_number_0 (wpX12_number k') k' t li lj Q'
        unfold wbX12_number_0 at hR ⊢
        exact wmX12_in hk (fun y3_0 h3 => ⟨fun c2 => ihk.2 _ _ _ (h3.1 c2), fun c2 => ⟨fun c1 => ihk.2 _ _ _ ((h3.2 c2).1 c1), fun c1 => ⟨((h3.2 c2).2 c1).1, fun x4 e4 => hQ _ _ (((h3.2 c2).2 c1).2 x4 e4)⟩⟩⟩) hR
      · intro t li lj hR
        have hR : wbX12_number_1 (wpX12_number k) k t li lj Q := hR
        show wbX12_number_1 (wpX12_number k') k' t li lj Q'
        unfold wbX12_number_1 at hR ⊢
        exact hQ _ _ hR
theorem wmX12_number {k k' : Nat} {t : XT} {a1 : Int32} {Q Q' : Int32 → XT → Prop} (hk : k ≤ k') (hQ : (∀ (r : Int32) (t : XT), Q r t → Q' r t)) (hR : wqX12_number k t a1 Q) : wqX12_number k' t a1 Q' := (wnX12_number Q Q' hQ k k' hk).1 _ _ _ hR
set_option maxHeartbeats 4000000 in
set_option maxRecDepth 100000 in
theorem wnX12_signOf (Q Q' : Int32 → XT → Prop) (hQ : (∀ (r : Int32) (t : XT), Q r t → Q' r t)) : ∀ k k' : Nat, k ≤ k' → (∀ (t : XT) (li : Nat → Int32) (lj : Nat → Int64), wpX12_signOf k 0 t li lj Q → wpX12_signOf k' 0 t li lj Q') := by
  intro k
  induction k with
  | zero => intro k' _; exact fun _ _ _ hR => False.elim hR
  | succ k ih =>
    intro k' hk
    cases k' with
    | zero => exact absurd hk (Nat.not_succ_le_zero k)
    | succ k' =>
      have hk := Nat.le_of_succ_le_succ hk
      have ihk := ih k' hk
      intro t li lj hR
      have hR : wbX12_signOf_0 (wpX12_signOf k) k t li lj Q := hR
      show wbX12_signOf_0 (wpX12_signOf k') k' t li lj Q'
      unfold wbX12_signOf_0 at hR ⊢
      exact ⟨hR.1, fun x2 e2 => ⟨(hR.2 x2 e2).1, fun x3 e3 => fun x4 e4 => fun x5 e5 => ⟨((((hR.2 x2 e2).2 x3 e3) x4 e4) x5 e5).1, fun x6 e6 => fun x7 e7 => fun x8 e8 => wmJ6_bitCount_0f7a4 hk (fun y9_0 h9 => ⟨h9.1, fun x10 e10 => ⟨fun c1 => hQ _ _ ((h9.2 x10 e10).1 c1), fun c1 => hQ _ _ ((h9.2 x10 e10).2 c1)⟩⟩) (((((((hR.2 x2 e2).2 x3 e3) x4 e4) x5 e5).2 x6 e6) x7 e7) x8 e8)⟩⟩⟩
theorem wmX12_signOf {k k' : Nat} {t : XT} {a1 : Int32} {a2 : Int32} {Q Q' : Int32 → XT → Prop} (hk : k ≤ k') (hQ : (∀ (r : Int32) (t : XT), Q r t → Q' r t)) (hR : wqX12_signOf k t a1 a2 Q) : wqX12_signOf k' t a1 a2 Q' := (wnX12_signOf Q Q' hQ k k' hk) _ _ _ hR
set_option maxHeartbeats 4000000 in
set_option maxRecDepth 100000 in
theorem wnX12_sign (Q Q' : Int32 → XT → Prop) (hQ : (∀ (r : Int32) (t : XT), Q r t → Q' r t)) : ∀ k k' : Nat, k ≤ k' → (∀ (t : XT) (li : Nat → Int32) (lj : Nat → Int64), wpX12_sign k 0 t li lj Q → wpX12_sign k' 0 t li lj Q') ∧ (∀ (t : XT) (li : Nat → Int32) (lj : Nat → Int64), wpX12_sign k 1 t li lj Q → wpX12_sign k' 1 t li lj Q') := by
  intro k
  induction k with
  | zero => intro k' _; exact ⟨fun _ _ _ hR => False.elim hR, fun _ _ _ hR => False.elim hR⟩
  | succ k ih =>
    intro k' hk
    cases k' with
    | zero => exact absurd hk (Nat.not_succ_le_zero k)
    | succ k' =>
      have hk := Nat.le_of_succ_le_succ hk
      have ihk := ih k' hk
      refine ⟨?_, ?_⟩
      · intro t li lj hR
        have hR : wbX12_sign_0 (wpX12_sign k) k t li lj Q := hR
        show wbX12_sign_0 (wpX12_sign k') k' t li lj Q'
        unfold wbX12_sign_0 at hR ⊢
        exact wmX12_isSimplex hk (fun y4_0 y4_1 h4 => ⟨fun c3 => ihk.2 _ _ _ (h4.1 c3), fun c3 => wmX12_isSimplex hk (fun y5_0 y5_1 h5 => ⟨fun c2 => wmX12_isFace hk (fun y6_0 y6_1 h6 => ⟨fun c1 => hQ _ _ (h6.1 c1), fun c1 => wmX12_signOf hk (fun y7_0 y7_1 h7 => hQ _ _ h7) (h6.2 c1)⟩) (h5.1 c2), fun c2 => ihk.2 _ _ _ (h5.2 c2)⟩) (h4.2 c3)⟩) hR
      · intro t li lj hR
        have hR : wbX12_sign_1 (wpX12_sign k) k t li lj Q := hR
        show wbX12_sign_1 (wpX12_sign k') k' t li lj Q'
        unfold wbX12_sign_1 at hR ⊢
        exact hQ _ _ hR
theorem wmX12_sign {k k' : Nat} {t : XT} {a1 : Int32} {a2 : Int32} {Q Q' : Int32 → XT → Prop} (hk : k ≤ k') (hQ : (∀ (r : Int32) (t : XT), Q r t → Q' r t)) (hR : wqX12_sign k t a1 a2 Q) : wqX12_sign k' t a1 a2 Q' := (wnX12_sign Q Q' hQ k k' hk).1 _ _ _ hR
set_option maxHeartbeats 4000000 in
set_option maxRecDepth 100000 in
theorem wnX12_isThere (Q Q' : Int32 → XT → Prop) (hQ : (∀ (r : Int32) (t : XT), Q r t → Q' r t)) : ∀ k k' : Nat, k ≤ k' → (∀ (t : XT) (li : Nat → Int32) (lj : Nat → Int64), wpX12_isThere k 0 t li lj Q → wpX12_isThere k' 0 t li lj Q') ∧ (∀ (t : XT) (li : Nat → Int32) (lj : Nat → Int64), wpX12_isThere k 1 t li lj Q → wpX12_isThere k' 1 t li lj Q') := by
  intro k
  induction k with
  | zero => intro k' _; exact ⟨fun _ _ _ hR => False.elim hR, fun _ _ _ hR => False.elim hR⟩
  | succ k ih =>
    intro k' hk
    cases k' with
    | zero => exact absurd hk (Nat.not_succ_le_zero k)
    | succ k' =>
      have hk := Nat.le_of_succ_le_succ hk
      have ihk := ih k' hk
      refine ⟨?_, ?_⟩
      · intro t li lj hR
        have hR : wbX12_isThere_0 (wpX12_isThere k) k t li lj Q := hR
        show wbX12_isThere_0 (wpX12_isThere k') k' t li lj Q'
        unfold wbX12_isThere_0 at hR ⊢
        exact wmX12_isSimplex hk (fun y3_0 y3_1 h3 => ⟨fun c2 => ihk.2 _ _ _ (h3.1 c2), fun c2 => ⟨(h3.2 c2).1, fun x4 e4 => ⟨fun c1 => ihk.2 _ _ _ (((h3.2 c2).2 x4 e4).1 c1), fun c1 => hQ _ _ (((h3.2 c2).2 x4 e4).2 c1)⟩⟩⟩) hR
      · intro t li lj hR
        have hR : wbX12_isThere_1 (wpX12_isThere k) k t li lj Q := hR
        show wbX12_isThere_1 (wpX12_isThere k') k' t li lj Q'
        unfold wbX12_isThere_1 at hR ⊢
        exact hQ _ _ hR
theorem wmX12_isThere {k k' : Nat} {t : XT} {a1 : Int32} {Q Q' : Int32 → XT → Prop} (hk : k ≤ k') (hQ : (∀ (r : Int32) (t : XT), Q r t → Q' r t)) (hR : wqX12_isThere k t a1 Q) : wqX12_isThere k' t a1 Q' := (wnX12_isThere Q Q' hQ k k' hk).1 _ _ _ hR
set_option maxHeartbeats 4000000 in
set_option maxRecDepth 100000 in
theorem wnX12_isFree (Q Q' : Int32 → XT → Prop) (hQ : (∀ (r : Int32) (t : XT), Q r t → Q' r t)) : ∀ k k' : Nat, k ≤ k' → (∀ (t : XT) (li : Nat → Int32) (lj : Nat → Int64), wpX12_isFree k 0 t li lj Q → wpX12_isFree k' 0 t li lj Q') ∧ (∀ (t : XT) (li : Nat → Int32) (lj : Nat → Int64), wpX12_isFree k 1 t li lj Q → wpX12_isFree k' 1 t li lj Q') := by
  intro k
  induction k with
  | zero => intro k' _; exact ⟨fun _ _ _ hR => False.elim hR, fun _ _ _ hR => False.elim hR⟩
  | succ k ih =>
    intro k' hk
    cases k' with
    | zero => exact absurd hk (Nat.not_succ_le_zero k)
    | succ k' =>
      have hk := Nat.le_of_succ_le_succ hk
      have ihk := ih k' hk
      refine ⟨?_, ?_⟩
      · intro t li lj hR
        have hR : wbX12_isFree_0 (wpX12_isFree k) k t li lj Q := hR
        show wbX12_isFree_0 (wpX12_isFree k') k' t li lj Q'
        unfold wbX12_isFree_0 at hR ⊢
        exact ⟨hR.1, fun x3 e3 => ⟨fun c2 => ihk.2 _ _ _ ((hR.2 x3 e3).1 c2), fun c2 => ⟨((hR.2 x3 e3).2 c2).1, fun x4 e4 => ⟨fun c1 => ihk.2 _ _ _ ((((hR.2 x3 e3).2 c2).2 x4 e4).1 c1), fun c1 => hQ _ _ ((((hR.2 x3 e3).2 c2).2 x4 e4).2 c1)⟩⟩⟩⟩
      · intro t li lj hR
        have hR : wbX12_isFree_1 (wpX12_isFree k) k t li lj Q := hR
        show wbX12_isFree_1 (wpX12_isFree k') k' t li lj Q'
        unfold wbX12_isFree_1 at hR ⊢
        exact hQ _ _ hR
theorem wmX12_isFree {k k' : Nat} {t : XT} {a1 : Int32} {a2 : Int32} {Q Q' : Int32 → XT → Prop} (hk : k ≤ k') (hQ : (∀ (r : Int32) (t : XT), Q r t → Q' r t)) (hR : wqX12_isFree k t a1 a2 Q) : wqX12_isFree k' t a1 a2 Q' := (wnX12_isFree Q Q' hQ k k' hk).1 _ _ _ hR
set_option maxHeartbeats 4000000 in
set_option maxRecDepth 100000 in
theorem wnX12_leadsOn (Q Q' : Int32 → XT → Prop) (hQ : (∀ (r : Int32) (t : XT), Q r t → Q' r t)) : ∀ k k' : Nat, k ≤ k' → (∀ (t : XT) (li : Nat → Int32) (lj : Nat → Int64), wpX12_leadsOn k 0 t li lj Q → wpX12_leadsOn k' 0 t li lj Q') ∧ (∀ (t : XT) (li : Nat → Int32) (lj : Nat → Int64), wpX12_leadsOn k 1 t li lj Q → wpX12_leadsOn k' 1 t li lj Q') ∧ (∀ (t : XT) (li : Nat → Int32) (lj : Nat → Int64), wpX12_leadsOn k 2 t li lj Q → wpX12_leadsOn k' 2 t li lj Q') := by
  intro k
  induction k with
  | zero => intro k' _; exact ⟨fun _ _ _ hR => False.elim hR, fun _ _ _ hR => False.elim hR, fun _ _ _ hR => False.elim hR⟩
  | succ k ih =>
    intro k' hk
    cases k' with
    | zero => exact absurd hk (Nat.not_succ_le_zero k)
    | succ k' =>
      have hk := Nat.le_of_succ_le_succ hk
      have ihk := ih k' hk
      refine ⟨?_, ?_, ?_⟩
      · intro t li lj hR
        have hR : wbX12_leadsOn_0 (wpX12_leadsOn k) k t li lj Q := hR
        show wbX12_leadsOn_0 (wpX12_leadsOn k') k' t li lj Q'
        unfold wbX12_leadsOn_0 at hR ⊢
        exact ihk.2.1 _ _ _ hR
      · intro t li lj hR
        have hR : wbX12_leadsOn_1 (wpX12_leadsOn k) k t li lj Q := hR
        show wbX12_leadsOn_1 (wpX12_leadsOn k') k' t li lj Q'
        unfold wbX12_leadsOn_1 at hR ⊢
        exact ⟨fun c4 => hQ _ _ (hR.1 c4), fun c4 => ⟨fun c3 => ihk.2.2 _ _ _ ((hR.2 c4).1 c3), fun c3 => ⟨((hR.2 c4).2 c3).1, fun x5 e5 => ⟨fun c2 => ihk.2.2 _ _ _ ((((hR.2 c4).2 c3).2 x5 e5).1 c2), fun c2 => ⟨((((hR.2 c4).2 c3).2 x5 e5).2 c2).1, fun x6 e6 => wmX12_isFace hk (fun y7_0 y7_1 h7 => ⟨fun c1 => ihk.2.2 _ _ _ (h7.1 c1), fun c1 => hQ _ _ (h7.2 c1)⟩) (((((hR.2 c4).2 c3).2 x5 e5).2 c2).2 x6 e6)⟩⟩⟩⟩⟩
      · intro t li lj hR
        have hR : wbX12_leadsOn_2 (wpX12_leadsOn k) k t li lj Q := hR
        show wbX12_leadsOn_2 (wpX12_leadsOn k') k' t li lj Q'
        unfold wbX12_leadsOn_2 at hR ⊢
        exact fun x8 e8 => ihk.2.1 _ _ _ (hR x8 e8)
theorem wmX12_leadsOn {k k' : Nat} {t : XT} {a1 : Int32} {Q Q' : Int32 → XT → Prop} (hk : k ≤ k') (hQ : (∀ (r : Int32) (t : XT), Q r t → Q' r t)) (hR : wqX12_leadsOn k t a1 Q) : wqX12_leadsOn k' t a1 Q' := (wnX12_leadsOn Q Q' hQ k k' hk).1 _ _ _ hR
set_option maxHeartbeats 4000000 in
set_option maxRecDepth 100000 in
theorem wnX12_isAcyclic (Q Q' : Int32 → XT → Prop) (hQ : (∀ (r : Int32) (t : XT), Q r t → Q' r t)) : ∀ k k' : Nat, k ≤ k' → (∀ (t : XT) (li : Nat → Int32) (lj : Nat → Int64), wpX12_isAcyclic k 0 t li lj Q → wpX12_isAcyclic k' 0 t li lj Q') ∧ (∀ (t : XT) (li : Nat → Int32) (lj : Nat → Int64), wpX12_isAcyclic k 1 t li lj Q → wpX12_isAcyclic k' 1 t li lj Q') ∧ (∀ (t : XT) (li : Nat → Int32) (lj : Nat → Int64), wpX12_isAcyclic k 2 t li lj Q → wpX12_isAcyclic k' 2 t li lj Q') ∧ (∀ (t : XT) (li : Nat → Int32) (lj : Nat → Int64), wpX12_isAcyclic k 3 t li lj Q → wpX12_isAcyclic k' 3 t li lj Q') ∧ (∀ (t : XT) (li : Nat → Int32) (lj : Nat → Int64), wpX12_isAcyclic k 4 t li lj Q → wpX12_isAcyclic k' 4 t li lj Q') ∧ (∀ (t : XT) (li : Nat → Int32) (lj : Nat → Int64), wpX12_isAcyclic k 5 t li lj Q → wpX12_isAcyclic k' 5 t li lj Q') := by
  intro k
  induction k with
  | zero => intro k' _; exact ⟨fun _ _ _ hR => False.elim hR, fun _ _ _ hR => False.elim hR, fun _ _ _ hR => False.elim hR, fun _ _ _ hR => False.elim hR, fun _ _ _ hR => False.elim hR, fun _ _ _ hR => False.elim hR⟩
  | succ k ih =>
    intro k' hk
    cases k' with
    | zero => exact absurd hk (Nat.not_succ_le_zero k)
    | succ k' =>
      have hk := Nat.le_of_succ_le_succ hk
      have ihk := ih k' hk
      refine ⟨?_, ?_, ?_, ?_, ?_, ?_⟩
      · intro t li lj hR
        have hR : wbX12_isAcyclic_0 (wpX12_isAcyclic k) k t li lj Q := hR
        show wbX12_isAcyclic_0 (wpX12_isAcyclic k') k' t li lj Q'
        unfold wbX12_isAcyclic_0 at hR ⊢
        exact ihk.2.1 _ _ _ hR
      · intro t li lj hR
        have hR : wbX12_isAcyclic_1 (wpX12_isAcyclic k) k t li lj Q := hR
        show wbX12_isAcyclic_1 (wpX12_isAcyclic k') k' t li lj Q'
        unfold wbX12_isAcyclic_1 at hR ⊢
        exact ⟨fun c1 => ihk.2.2.1 _ _ _ (hR.1 c1), fun c1 => wmX12_isLower hk (fun y8_0 y8_1 h8 => wmX12_truth hk (fun y9_0 h9 => ⟨h9.1, fun x10 e10 => fun x11 e11 => ihk.2.1 _ _ _ ((h9.2 x10 e10) x11 e11)⟩) h8) (hR.2 c1)⟩
      · intro t li lj hR
        have hR : wbX12_isAcyclic_2 (wpX12_isAcyclic k) k t li lj Q := hR
        show wbX12_isAcyclic_2 (wpX12_isAcyclic k') k' t li lj Q'
        unfold wbX12_isAcyclic_2 at hR ⊢
        exact ⟨fun c2 => ihk.2.2.2.2.2 _ _ _ (hR.1 c2), fun c2 => ihk.2.2.2.1 _ _ _ (hR.2 c2)⟩
      · intro t li lj hR
        have hR : wbX12_isAcyclic_3 (wpX12_isAcyclic k) k t li lj Q := hR
        show wbX12_isAcyclic_3 (wpX12_isAcyclic k') k' t li lj Q'
        unfold wbX12_isAcyclic_3 at hR ⊢
        exact ⟨fun c5 => ihk.2.2.1 _ _ _ (hR.1 c5), fun c5 => ⟨(hR.2 c5).1, fun x12 e12 => ⟨fun c4 => ihk.2.2.2.2.1 _ _ _ (((hR.2 c5).2 x12 e12).1 c4), fun c4 => wmX12_leadsOn hk (fun y13_0 y13_1 h13 => ⟨fun c3 => ihk.2.2.2.2.1 _ _ _ (h13.1 c3), fun c3 => ⟨(h13.2 c3).1, fun x14 e14 => ihk.2.2.2.2.1 _ _ _ ((h13.2 c3).2 x14 e14)⟩⟩) (((hR.2 c5).2 x12 e12).2 c4)⟩⟩⟩
      · intro t li lj hR
        have hR : wbX12_isAcyclic_4 (wpX12_isAcyclic k) k t li lj Q := hR
        show wbX12_isAcyclic_4 (wpX12_isAcyclic k') k' t li lj Q'
        unfold wbX12_isAcyclic_4 at hR ⊢
        exact fun x15 e15 => ihk.2.2.2.1 _ _ _ (hR x15 e15)
      · intro t li lj hR
        have hR : wbX12_isAcyclic_5 (wpX12_isAcyclic k) k t li lj Q := hR
        show wbX12_isAcyclic_5 (wpX12_isAcyclic k') k' t li lj Q'
        unfold wbX12_isAcyclic_5 at hR ⊢
        exact ⟨fun c7 => hQ _ _ (hR.1 c7), fun c7 => ⟨(hR.2 c7).1, fun x16 e16 => ⟨fun c6 => fun x17 e17 => ihk.2.2.2.2.2 _ _ _ ((((hR.2 c7).2 x16 e16).1 c6) x17 e17), fun c6 => hQ _ _ (((hR.2 c7).2 x16 e16).2 c6)⟩⟩⟩
theorem wmX12_isAcyclic {k k' : Nat} {t : XT}  {Q Q' : Int32 → XT → Prop} (hk : k ≤ k') (hQ : (∀ (r : Int32) (t : XT), Q r t → Q' r t)) (hR : wqX12_isAcyclic k t  Q) : wqX12_isAcyclic k' t  Q' := (wnX12_isAcyclic Q Q' hQ k k' hk).1 _ _ _ hR
