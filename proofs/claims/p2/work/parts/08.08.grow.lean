set_option maxHeartbeats 4000000 in
set_option maxRecDepth 100000 in
theorem wnX7_greatest (Q Q' : Int64 → XT → Prop) (hQ : (∀ (r : Int64) (t : XT), Q r t → Q' r t)) : ∀ k k' : Nat, k ≤ k' → (∀ (t : XT) (li : Nat → Int32) (lj : Nat → Int64), wpX7_greatest k 0 t li lj Q → wpX7_greatest k' 0 t li lj Q') := by
  intro k
  induction k with
  | zero => intro k' _; exact fun _ _ _ hR => False.elim hR
  | succ k ih =>
    intro k' hk
    cases k' with
    | zero => exact absurd hk (Nat.not_succ_le_zero k)
    | succ k' =>
      have hk := Nat.le_of_succ_le_succ hk
      have ihk := ih k' hk
      intro t li lj hR
      have hR : wbX7_greatest_0 (wpX7_greatest k) k t li lj Q := hR
      show wbX7_greatest_0 (wpX7_greatest k') k' t li lj Q'
      unfold wbX7_greatest_0 at hR ⊢
      exact wmX9_greatestDim hk (fun y2_0 y2_1 h2 => wmX11_isDim hk (fun y3_0 h3 => ⟨fun c1 => hQ _ _ (h3.1 c1), fun c1 => ⟨(h3.2 c1).1, fun x4 e4 => fun x5 e5 => hQ _ _ (((h3.2 c1).2 x4 e4) x5 e5)⟩⟩) h2) hR
theorem wmX7_greatest {k k' : Nat} {t : XT}  {Q Q' : Int64 → XT → Prop} (hk : k ≤ k') (hQ : (∀ (r : Int64) (t : XT), Q r t → Q' r t)) (hR : wqX7_greatest k t  Q) : wqX7_greatest k' t  Q' := (wnX7_greatest Q Q' hQ k k' hk) _ _ _ hR
set_option maxHeartbeats 4000000 in
set_option maxRecDepth 100000 in
theorem wnX11_drawFrom (Q Q' : Int32 → XT → Prop) (hQ : (∀ (r : Int32) (t : XT), Q r t → Q' r t)) : ∀ k k' : Nat, k ≤ k' → (∀ (t : XT) (li : Nat → Int32) (lj : Nat → Int64), wpX11_drawFrom k 0 t li lj Q → wpX11_drawFrom k' 0 t li lj Q') := by
  intro k
  induction k with
  | zero => intro k' _; exact fun _ _ _ hR => False.elim hR
  | succ k ih =>
    intro k' hk
    cases k' with
    | zero => exact absurd hk (Nat.not_succ_le_zero k)
    | succ k' =>
      have hk := Nat.le_of_succ_le_succ hk
      have ihk := ih k' hk
      intro t li lj hR
      have hR : wbX11_drawFrom_0 (wpX11_drawFrom k) k t li lj Q := hR
      show wbX11_drawFrom_0 (wpX11_drawFrom k') k' t li lj Q'
      unfold wbX11_drawFrom_0 at hR ⊢
      exact wmJ13_bitCount_95d88 hk (fun y2_0 h2 => fun x3 e3 => fun x4 e4 => fun x5 e5 => ⟨(((h2 x3 e3) x4 e4) x5 e5).1, fun x6 e6 => fun x7 e7 => fun x8 e8 => ⟨fun c1 => hQ _ _ (((((((h2 x3 e3) x4 e4) x5 e5).2 x6 e6) x7 e7) x8 e8).1 c1), fun c1 => ⟨(((((((h2 x3 e3) x4 e4) x5 e5).2 x6 e6) x7 e7) x8 e8).2 c1).1, fun x9 e9 => ⟨((((((((h2 x3 e3) x4 e4) x5 e5).2 x6 e6) x7 e7) x8 e8).2 c1).2 x9 e9).1, fun x10 e10 => wmX11_nth hk (fun y11_0 h11 => hQ _ _ h11) (((((((((h2 x3 e3) x4 e4) x5 e5).2 x6 e6) x7 e7) x8 e8).2 c1).2 x9 e9).2 x10 e10)⟩⟩⟩⟩) hR
theorem wmX11_drawFrom {k k' : Nat} {t : XT} {a1 : Int64} {Q Q' : Int32 → XT → Prop} (hk : k ≤ k') (hQ : (∀ (r : Int32) (t : XT), Q r t → Q' r t)) (hR : wqX11_drawFrom k t a1 Q) : wqX11_drawFrom k' t a1 Q' := (wnX11_drawFrom Q Q' hQ k k' hk) _ _ _ hR
set_option maxHeartbeats 4000000 in
set_option maxRecDepth 100000 in
theorem wnX11_peelByDraws (Q Q' : Int32 → XT → Prop) (hQ : (∀ (r : Int32) (t : XT), Q r t → Q' r t)) : ∀ k k' : Nat, k ≤ k' → (∀ (t : XT) (li : Nat → Int32) (lj : Nat → Int64), wpX11_peelByDraws k 0 t li lj Q → wpX11_peelByDraws k' 0 t li lj Q') ∧ (∀ (t : XT) (li : Nat → Int32) (lj : Nat → Int64), wpX11_peelByDraws k 1 t li lj Q → wpX11_peelByDraws k' 1 t li lj Q') ∧ (∀ (t : XT) (li : Nat → Int32) (lj : Nat → Int64), wpX11_peelByDraws k 2 t li lj Q → wpX11_peelByDraws k' 2 t li lj Q') ∧ (∀ (t : XT) (li : Nat → Int32) (lj : Nat → Int64), wpX11_peelByDraws k 3 t li lj Q → wpX11_peelByDraws k' 3 t li lj Q') := by
  intro k
  induction k with
  | zero => intro k' _; exact ⟨fun _ _ _ hR => False.elim hR, fun _ _ _ hR => False.elim hR, fun _ _ _ hR => False.elim hR, fun _ _ _ hR => False.elim hR⟩
  | succ k ih =>
    intro k' hk
    cases k' with
    | zero => exact absurd hk (Nat.not_succ_le_zero k)
    | succ k' =>
      have hk := Nat.le_of_succ_le_succ hk
      have ihk := ih k' hk
      refine ⟨?_, ?_, ?_, ?_⟩
      · intro t li lj hR
        have hR : wbX11_peelByDraws_0 (wpX11_peelByDraws k) k t li lj Q := hR
        show wbX11_peelByDraws_0 (wpX11_peelByDraws k') k' t li lj Q'
        unfold wbX11_peelByDraws_0 at hR ⊢
        exact wmX7_begin hk (fun y4_0 h4 => ihk.2.1 _ _ _ h4) hR
      · intro t li lj hR
        have hR : wbX11_peelByDraws_1 (wpX11_peelByDraws k) k t li lj Q := hR
        show wbX11_peelByDraws_1 (wpX11_peelByDraws k') k' t li lj Q'
        unfold wbX11_peelByDraws_1 at hR ⊢
        exact ⟨fun c3 => ihk.2.2.2 _ _ _ (hR.1 c3), fun c3 => fun x5 e5 => ⟨fun c2 => ihk.2.2.2 _ _ _ (((hR.2 c3) x5 e5).1 c2), fun c2 => fun x6 e6 => ⟨fun c1 => wmX7_greatest hk (fun y7_0 y7_1 h7 => wmX11_drawFrom hk (fun y8_0 y8_1 h8 => wmX7_close hk (fun y9_0 h9 => fun x10 e10 => ihk.2.2.1 _ _ _ (h9 x10 e10)) h8) h7) (((((hR.2 c3) x5 e5).2 c2) x6 e6).1 c1), fun c1 => wmX11_drawFrom hk (fun y11_0 y11_1 h11 => wmX7_above hk (fun y12_0 y12_1 h12 => wmX7_close hk (fun y13_0 h13 => wmX7_close hk (fun y14_0 h14 => ihk.2.2.1 _ _ _ h14) h13) h12) h11) (((((hR.2 c3) x5 e5).2 c2) x6 e6).2 c1)⟩⟩⟩
      · intro t li lj hR
        have hR : wbX11_peelByDraws_2 (wpX11_peelByDraws k) k t li lj Q := hR
        show wbX11_peelByDraws_2 (wpX11_peelByDraws k') k' t li lj Q'
        unfold wbX11_peelByDraws_2 at hR ⊢
        exact fun x15 e15 => ihk.2.1 _ _ _ (hR x15 e15)
      · intro t li lj hR
        have hR : wbX11_peelByDraws_3 (wpX11_peelByDraws k) k t li lj Q := hR
        show wbX11_peelByDraws_3 (wpX11_peelByDraws k') k' t li lj Q'
        unfold wbX11_peelByDraws_3 at hR ⊢
        exact hQ _ _ hR
theorem wmX11_peelByDraws {k k' : Nat} {t : XT}  {Q Q' : Int32 → XT → Prop} (hk : k ≤ k') (hQ : (∀ (r : Int32) (t : XT), Q r t → Q' r t)) (hR : wqX11_peelByDraws k t  Q) : wqX11_peelByDraws k' t  Q' := (wnX11_peelByDraws Q Q' hQ k k' hk).1 _ _ _ hR
set_option maxHeartbeats 4000000 in
set_option maxRecDepth 100000 in
theorem wnX11_drawn (Q Q' : Int32 → XT → Prop) (hQ : (∀ (r : Int32) (t : XT), Q r t → Q' r t)) : ∀ k k' : Nat, k ≤ k' → (∀ (t : XT) (li : Nat → Int32) (lj : Nat → Int64), wpX11_drawn k 0 t li lj Q → wpX11_drawn k' 0 t li lj Q') ∧ (∀ (t : XT) (li : Nat → Int32) (lj : Nat → Int64), wpX11_drawn k 1 t li lj Q → wpX11_drawn k' 1 t li lj Q') ∧ (∀ (t : XT) (li : Nat → Int32) (lj : Nat → Int64), wpX11_drawn k 2 t li lj Q → wpX11_drawn k' 2 t li lj Q') ∧ (∀ (t : XT) (li : Nat → Int32) (lj : Nat → Int64), wpX11_drawn k 3 t li lj Q → wpX11_drawn k' 3 t li lj Q') ∧ (∀ (t : XT) (li : Nat → Int32) (lj : Nat → Int64), wpX11_drawn k 4 t li lj Q → wpX11_drawn k' 4 t li lj Q') := by
  intro k
  induction k with
  | zero => intro k' _; exact ⟨fun _ _ _ hR => False.elim hR, fun _ _ _ hR => False.elim hR, fun _ _ _ hR => False.elim hR, fun _ _ _ hR => False.elim hR, fun _ _ _ hR => False.elim hR⟩
  | succ k ih =>
    intro k' hk
    cases k' with
    | zero => exact absurd hk (Nat.not_succ_le_zero k)
    | succ k' =>
      have hk := Nat.le_of_succ_le_succ hk
      have ihk := ih k' hk
      refine ⟨?_, ?_, ?_, ?_, ?_⟩
      · intro t li lj hR
        have hR : wbX11_drawn_0 (wpX11_drawn k) k t li lj Q := hR
        show wbX11_drawn_0 (wpX11_drawn k') k' t li lj Q'
        unfold wbX11_drawn_0 at hR ⊢
        exact ⟨fun c5 => ihk.2.1 _ _ _ (hR.1 c5), fun c5 => ⟨fun c4 => ihk.2.1 _ _ _ ((hR.2 c5).1 c4), fun c4 => ⟨fun c3 => ihk.2.1 _ _ _ (((hR.2 c5).2 c4).1 c3), fun c3 => ⟨fun c2 => ihk.2.1 _ _ _ ((((hR.2 c5).2 c4).2 c3).1 c2), fun c2 => ⟨fun c1 => ihk.2.2.1 _ _ _ (((((hR.2 c5).2 c4).2 c3).2 c2).1 c1), fun c1 => ihk.2.1 _ _ _ (((((hR.2 c5).2 c4).2 c3).2 c2).2 c1)⟩⟩⟩⟩⟩
      · intro t li lj hR
        have hR : wbX11_drawn_1 (wpX11_drawn k) k t li lj Q := hR
        show wbX11_drawn_1 (wpX11_drawn k') k' t li lj Q'
        unfold wbX11_drawn_1 at hR ⊢
        exact hQ _ _ hR
      · intro t li lj hR
        have hR : wbX11_drawn_2 (wpX11_drawn k) k t li lj Q := hR
        show wbX11_drawn_2 (wpX11_drawn k') k' t li lj Q'
        unfold wbX11_drawn_2 at hR ⊢
        exact ⟨fun c9 => fun x11 e11 => ⟨fun c7 => ⟨fun c6 => hQ _ _ ((((hR.1 c9) x11 e11).1 c7).1 c6), fun c6 => hQ _ _ ((((hR.1 c9) x11 e11).1 c7).2 c6)⟩, fun c7 => hQ _ _ (((hR.1 c9) x11 e11).2 c7)⟩, fun c9 => wmX11_peelByDraws hk (fun y12_0 y12_1 h12 => fun x13 e13 => ⟨fun c8 => ihk.2.2.2.1 _ _ _ ((h12 x13 e13).1 c8), fun c8 => ihk.2.2.2.1 _ _ _ ((h12 x13 e13).2 c8)⟩) (hR.2 c9)⟩
      · intro t li lj hR
        have hR : wbX11_drawn_3 (wpX11_drawn k) k t li lj Q := hR
        show wbX11_drawn_3 (wpX11_drawn k') k' t li lj Q'
        unfold wbX11_drawn_3 at hR ⊢
        exact ⟨fun c10 => ihk.2.2.2.2 _ _ _ (hR.1 c10), fun c10 => fun x14 e14 => ihk.2.2.2.2 _ _ _ ((hR.2 c10) x14 e14)⟩
      · intro t li lj hR
        have hR : wbX11_drawn_4 (wpX11_drawn k) k t li lj Q := hR
        show wbX11_drawn_4 (wpX11_drawn k') k' t li lj Q'
        unfold wbX11_drawn_4 at hR ⊢
        exact fun x15 e15 => ihk.2.2.1 _ _ _ (hR x15 e15)
theorem wmX11_drawn {k k' : Nat} {t : XT} {a1 : Int32} {a2 : Int32} {Q Q' : Int32 → XT → Prop} (hk : k ≤ k') (hQ : (∀ (r : Int32) (t : XT), Q r t → Q' r t)) (hR : wqX11_drawn k t a1 a2 Q) : wqX11_drawn k' t a1 a2 Q' := (wnX11_drawn Q Q' hQ k k' hk).1 _ _ _ hR
set_option maxHeartbeats 4000000 in
set_option maxRecDepth 100000 in
theorem wnX2_upTo (Q Q' : Int64 → XT → Prop) (hQ : (∀ (r : Int64) (t : XT), Q r t → Q' r t)) : ∀ k k' : Nat, k ≤ k' → (∀ (t : XT) (li : Nat → Int32) (lj : Nat → Int64), wpX2_upTo k 0 t li lj Q → wpX2_upTo k' 0 t li lj Q') ∧ (∀ (t : XT) (li : Nat → Int32) (lj : Nat → Int64), wpX2_upTo k 1 t li lj Q → wpX2_upTo k' 1 t li lj Q') ∧ (∀ (t : XT) (li : Nat → Int32) (lj : Nat → Int64), wpX2_upTo k 2 t li lj Q → wpX2_upTo k' 2 t li lj Q') := by
  intro k
  induction k with
  | zero => intro k' _; exact ⟨fun _ _ _ hR => False.elim hR, fun _ _ _ hR => False.elim hR, fun _ _ _ hR => False.elim hR⟩
  | succ k ih =>
    intro k' hk
    cases k' with
    | zero => exact absurd hk (Nat.not_succ_le_zero k)
    | succ k' =>
      have hk := Nat.le_of_succ_le_succ hk
      have ihk := ih k' hk
      refine ⟨?_, ?_, ?_⟩
      · intro t li lj hR
        have hR : wbX2_upTo_0 (wpX2_upTo k) k t li lj Q := hR
        show wbX2_upTo_0 (wpX2_upTo k') k' t li lj Q'
        unfold wbX2_upTo_0 at hR ⊢
        exact wmX2_measure hk (fun y3_0 h3 => ihk.2.1 _ _ _ h3) hR
      · intro t li lj hR
        have hR : wbX2_upTo_1 (wpX2_upTo k) k t li lj Q := hR
        show wbX2_upTo_1 (wpX2_upTo k') k' t li lj Q'
        unfold wbX2_upTo_1 at hR ⊢
        exact ⟨fun c2 => hQ _ _ (hR.1 c2), fun c2 => ⟨(hR.2 c2).1, fun x4 e4 => ⟨((hR.2 c2).2 x4 e4).1, fun x5 e5 => ⟨fun c1 => ihk.2.2 _ _ _ ((((hR.2 c2).2 x4 e4).2 x5 e5).1 c1), fun c1 => ⟨((((hR.2 c2).2 x4 e4).2 x5 e5).2 c1).1, fun x6 e6 => wmX11_bit hk (fun y7_0 h7 => fun x8 e8 => ihk.2.2 _ _ _ (h7 x8 e8)) (((((hR.2 c2).2 x4 e4).2 x5 e5).2 c1).2 x6 e6)⟩⟩⟩⟩⟩
      · intro t li lj hR
        have hR : wbX2_upTo_2 (wpX2_upTo k) k t li lj Q := hR
        show wbX2_upTo_2 (wpX2_upTo k') k' t li lj Q'
        unfold wbX2_upTo_2 at hR ⊢
        exact fun x9 e9 => ihk.2.1 _ _ _ (hR x9 e9)
theorem wmX2_upTo {k k' : Nat} {t : XT} {a1 : Int32} {Q Q' : Int64 → XT → Prop} (hk : k ≤ k') (hQ : (∀ (r : Int64) (t : XT), Q r t → Q' r t)) (hR : wqX2_upTo k t a1 Q) : wqX2_upTo k' t a1 Q' := (wnX2_upTo Q Q' hQ k k' hk).1 _ _ _ hR
set_option maxHeartbeats 4000000 in
set_option maxRecDepth 100000 in
theorem wnX11_level (Q Q' : Int32 → XT → Prop) (hQ : (∀ (r : Int32) (t : XT), Q r t → Q' r t)) : ∀ k k' : Nat, k ≤ k' → (∀ (t : XT) (li : Nat → Int32) (lj : Nat → Int64), wpX11_level k 0 t li lj Q → wpX11_level k' 0 t li lj Q') ∧ (∀ (t : XT) (li : Nat → Int32) (lj : Nat → Int64), wpX11_level k 1 t li lj Q → wpX11_level k' 1 t li lj Q') := by
  intro k
  induction k with
  | zero => intro k' _; exact ⟨fun _ _ _ hR => False.elim hR, fun _ _ _ hR => False.elim hR⟩
  | succ k ih =>
    intro k' hk
    cases k' with
    | zero => exact absurd hk (Nat.not_succ_le_zero k)
    | succ k' =>
      have hk := Nat.le_of_succ_le_succ hk
      have ihk := ih k' hk
      refine ⟨?_, ?_⟩
      · intro t li lj hR
        have hR : wbX11_level_0 (wpX11_level k) k t li lj Q := hR
        show wbX11_level_0 (wpX11_level k') k' t li lj Q'
        unfold wbX11_level_0 at hR ⊢
        exact ⟨fun c4 => ihk.2 _ _ _ (hR.1 c4), fun c4 => ⟨fun c3 => ihk.2 _ _ _ ((hR.2 c4).1 c3), fun c3 => ⟨fun c2 => wmX2_upTo hk (fun y5_0 y5_1 h5 => ⟨fun c1 => wmX9_eulerOf hk (fun y6_0 y6_1 h6 => hQ _ _ h6) (h5.1 c1), fun c1 => wmJ13_bitCount_95d88 hk (fun y7_0 h7 => hQ _ _ h7) (h5.2 c1)⟩) (((hR.2 c4).2 c3).1 c2), fun c2 => ihk.2 _ _ _ (((hR.2 c4).2 c3).2 c2)⟩⟩⟩
      · intro t li lj hR
        have hR : wbX11_level_1 (wpX11_level k) k t li lj Q := hR
        show wbX11_level_1 (wpX11_level k') k' t li lj Q'
        unfold wbX11_level_1 at hR ⊢
        exact hQ _ _ hR
theorem wmX11_level {k k' : Nat} {t : XT} {a1 : Int32} {a2 : Int32} {Q Q' : Int32 → XT → Prop} (hk : k ≤ k') (hQ : (∀ (r : Int32) (t : XT), Q r t → Q' r t)) (hR : wqX11_level k t a1 a2 Q) : wqX11_level k' t a1 a2 Q' := (wnX11_level Q Q' hQ k k' hk).1 _ _ _ hR
set_option maxHeartbeats 4000000 in
set_option maxRecDepth 100000 in
theorem wnX9_withFaces (Q Q' : Int64 → XT → Prop) (hQ : (∀ (r : Int64) (t : XT), Q r t → Q' r t)) : ∀ k k' : Nat, k ≤ k' → (∀ (t : XT) (li : Nat → Int32) (lj : Nat → Int64), wpX9_withFaces k 0 t li lj Q → wpX9_withFaces k' 0 t li lj Q') ∧ (∀ (t : XT) (li : Nat → Int32) (lj : Nat → Int64), wpX9_withFaces k 1 t li lj Q → wpX9_withFaces k' 1 t li lj Q') ∧ (∀ (t : XT) (li : Nat → Int32) (lj : Nat → Int64), wpX9_withFaces k 2 t li lj Q → wpX9_withFaces k' 2 t li lj Q') := by
  intro k
  induction k with
  | zero => intro k' _; exact ⟨fun _ _ _ hR => False.elim hR, fun _ _ _ hR => False.elim hR, fun _ _ _ hR => False.elim hR⟩
  | succ k ih =>
    intro k' hk
    cases k' with
    | zero => exact absurd hk (Nat.not_succ_le_zero k)
    | succ k' =>
      have hk := Nat.le_of_succ_le_succ hk
      have ihk := ih k' hk
      refine ⟨?_, ?_, ?_⟩
      · intro t li lj hR
        have hR : wbX9_withFaces_0 (wpX9_withFaces k) k t li lj Q := hR
        show wbX9_withFaces_0 (wpX9_withFaces k') k' t li lj Q'
        unfold wbX9_withFaces_0 at hR ⊢
        exact fun x3 e3 => ihk.2.1 _ _ _ (hR x3 e3)
      · intro t li lj hR
        have hR : wbX9_withFaces_1 (wpX9_withFaces k) k t li lj Q := hR
        show wbX9_withFaces_1 (wpX9_withFaces k') k' t li lj Q'
        unfold wbX9_withFaces_1 at hR ⊢
        exact ⟨fun c2 => hQ _ _ (hR.1 c2), fun c2 => wmX11_isIn hk (fun y4_0 h4 => ⟨fun c1 => ihk.2.2 _ _ _ (h4.1 c1), fun c1 => ⟨(h4.2 c1).1, fun x5 e5 => fun x6 e6 => ihk.2.2 _ _ _ (((h4.2 c1).2 x5 e5) x6 e6)⟩⟩) (hR.2 c2)⟩
      · intro t li lj hR
        have hR : wbX9_withFaces_2 (wpX9_withFaces k) k t li lj Q := hR
        show wbX9_withFaces_2 (wpX9_withFaces k') k' t li lj Q'
        unfold wbX9_withFaces_2 at hR ⊢
        exact fun x7 e7 => ihk.2.1 _ _ _ (hR x7 e7)
theorem wmX9_withFaces {k k' : Nat} {t : XT} {a1 : Int64} {Q Q' : Int64 → XT → Prop} (hk : k ≤ k') (hQ : (∀ (r : Int64) (t : XT), Q r t → Q' r t)) (hR : wqX9_withFaces k t a1 Q) : wqX9_withFaces k' t a1 Q' := (wnX9_withFaces Q Q' hQ k k' hk).1 _ _ _ hR
set_option maxHeartbeats 4000000 in
set_option maxRecDepth 100000 in
theorem wnX11_levelBetti (Q Q' : Int32 → XT → Prop) (hQ : (∀ (r : Int32) (t : XT), Q r t → Q' r t)) : ∀ k k' : Nat, k ≤ k' → (∀ (t : XT) (li : Nat → Int32) (lj : Nat → Int64), wpX11_levelBetti k 0 t li lj Q → wpX11_levelBetti k' 0 t li lj Q') ∧ (∀ (t : XT) (li : Nat → Int32) (lj : Nat → Int64), wpX11_levelBetti k 1 t li lj Q → wpX11_levelBetti k' 1 t li lj Q') := by
  intro k
  induction k with
  | zero => intro k' _; exact ⟨fun _ _ _ hR => False.elim hR, fun _ _ _ hR => False.elim hR⟩
  | succ k ih =>
    intro k' hk
    cases k' with
    | zero => exact absurd hk (Nat.not_succ_le_zero k)
    | succ k' =>
      have hk := Nat.le_of_succ_le_succ hk
      have ihk := ih k' hk
      refine ⟨?_, ?_⟩
      · intro t li lj hR
        have hR : wbX11_levelBetti_0 (wpX11_levelBetti k) k t li lj Q := hR
        show wbX11_levelBetti_0 (wpX11_levelBetti k') k' t li lj Q'
        unfold wbX11_levelBetti_0 at hR ⊢
        exact ⟨fun c2 => ihk.2 _ _ _ (hR.1 c2), fun c2 => wmX11_isDim hk (fun y3_0 h3 => ⟨fun c1 => wmX2_upTo hk (fun y4_0 y4_1 h4 => wmX9_withFaces hk (fun y5_0 y5_1 h5 => wmX0_bettiOf hk (fun y6_0 y6_1 h6 => hQ _ _ h6) h5) h4) (h3.1 c1), fun c1 => ihk.2 _ _ _ (h3.2 c1)⟩) (hR.2 c2)⟩
      · intro t li lj hR
        have hR : wbX11_levelBetti_1 (wpX11_levelBetti k) k t li lj Q := hR
        show wbX11_levelBetti_1 (wpX11_levelBetti k') k' t li lj Q'
        unfold wbX11_levelBetti_1 at hR ⊢
        exact hQ _ _ hR
theorem wmX11_levelBetti {k k' : Nat} {t : XT} {a1 : Int32} {a2 : Int32} {Q Q' : Int32 → XT → Prop} (hk : k ≤ k') (hQ : (∀ (r : Int32) (t : XT), Q r t → Q' r t)) (hR : wqX11_levelBetti k t a1 a2 Q) : wqX11_levelBetti k' t a1 a2 Q' := (wnX11_levelBetti Q Q' hQ k k' hk).1 _ _ _ hR
set_option maxHeartbeats 4000000 in
set_option maxRecDepth 100000 in
theorem wnX4_store_c4 (Q Q' : XT → Prop) (hQ : (∀ (t : XT), Q t → Q' t)) : ∀ k k' : Nat, k ≤ k' → (∀ (t : XT) (li : Nat → Int32) (lj : Nat → Int64), wpX4_store_c4 k 0 t li lj Q → wpX4_store_c4 k' 0 t li lj Q') := by
  intro k
  induction k with
  | zero => intro k' _; exact fun _ _ _ hR => False.elim hR
  | succ k ih =>
    intro k' hk
    cases k' with
    | zero => exact absurd hk (Nat.not_succ_le_zero k)
    | succ k' =>
      have hk := Nat.le_of_succ_le_succ hk
      have ihk := ih k' hk
      intro t li lj hR
      have hR : wbX4_store_c4_0 (wpX4_store_c4 k) k t li lj Q := hR
      show wbX4_store_c4_0 (wpX4_store_c4 k') k' t li lj Q'
      unfold wbX4_store_c4_0 at hR ⊢
      exact fun x1 e1 => ⟨(hR x1 e1).1, (hR x1 e1).2.1, (hR x1 e1).2.2.1, (hR x1 e1).2.2.2.1, (hR x1 e1).2.2.2.2.1, fun x2 e2 => wmX11_bit hk (fun y3_0 h3 => fun x4 e4 => fun x5 e5 => hQ _ ((h3 x4 e4) x5 e5)) ((hR x1 e1).2.2.2.2.2 x2 e2)⟩
theorem wmX4_store_c4 {k k' : Nat} {t : XT} {a1 : Int32} {Q Q' : XT → Prop} (hk : k ≤ k') (hQ : (∀ (t : XT), Q t → Q' t)) (hR : wqX4_store_c4 k t a1 Q) : wqX4_store_c4 k' t a1 Q' := (wnX4_store_c4 Q Q' hQ k k' hk) _ _ _ hR
set_option maxHeartbeats 4000000 in
set_option maxRecDepth 100000 in
theorem wnX6_howMany (Q Q' : Int32 → XT → Prop) (hQ : (∀ (r : Int32) (t : XT), Q r t → Q' r t)) : ∀ k k' : Nat, k ≤ k' → (∀ (t : XT) (li : Nat → Int32) (lj : Nat → Int64), wpX6_howMany k 0 t li lj Q → wpX6_howMany k' 0 t li lj Q') := by
  intro k
  induction k with
  | zero => intro k' _; exact fun _ _ _ hR => False.elim hR
  | succ k ih =>
    intro k' hk
    cases k' with
    | zero => exact absurd hk (Nat.not_succ_le_zero k)
    | succ k' =>
      have hk := Nat.le_of_succ_le_succ hk
      have ihk := ih k' hk
      intro t li lj hR
      have hR : wbX6_howMany_0 (wpX6_howMany k) k t li lj Q := hR
      show wbX6_howMany_0 (wpX6_howMany k') k' t li lj Q'
      unfold wbX6_howMany_0 at hR ⊢
      exact wmJ13_bitCount_95d88 hk (fun y1_0 h1 => hQ _ _ h1) hR
theorem wmX6_howMany {k k' : Nat} {t : XT}  {Q Q' : Int32 → XT → Prop} (hk : k ≤ k') (hQ : (∀ (r : Int32) (t : XT), Q r t → Q' r t)) (hR : wqX6_howMany k t  Q) : wqX6_howMany k' t  Q' := (wnX6_howMany Q Q' hQ k k' hk) _ _ _ hR
set_option maxHeartbeats 4000000 in
set_option maxRecDepth 100000 in
theorem wnX11_keep (Q Q' : Int32 → XT → Prop) (hQ : (∀ (r : Int32) (t : XT), Q r t → Q' r t)) : ∀ k k' : Nat, k ≤ k' → (∀ (t : XT) (li : Nat → Int32) (lj : Nat → Int64), wpX11_keep k 0 t li lj Q → wpX11_keep k' 0 t li lj Q') ∧ (∀ (t : XT) (li : Nat → Int32) (lj : Nat → Int64), wpX11_keep k 1 t li lj Q → wpX11_keep k' 1 t li lj Q') := by
  intro k
  induction k with
  | zero => intro k' _; exact ⟨fun _ _ _ hR => False.elim hR, fun _ _ _ hR => False.elim hR⟩
  | succ k ih =>
    intro k' hk
    cases k' with
    | zero => exact absurd hk (Nat.not_succ_le_zero k)
    | succ k' =>
      have hk := Nat.le_of_succ_le_succ hk
      have ihk := ih k' hk
      refine ⟨?_, ?_⟩
      · intro t li lj hR
        have hR : wbX11_keep_0 (wpX11_keep k) k t li lj Q := hR
        show wbX11_keep_0 (wpX11_keep k') k' t li lj Q'
        unfold wbX11_keep_0 at hR ⊢
        exact ⟨fun c3 => ihk.2 _ _ _ (hR.1 c3), fun c3 => ⟨fun c2 => ihk.2 _ _ _ ((hR.2 c3).1 c2), fun c2 => ⟨fun c1 => wmX4_store_c4 hk (fun y4_0 h4 => wmX6_howMany hk (fun y5_0 y5_1 h5 => hQ _ _ h5) h4) (((hR.2 c3).2 c2).1 c1), fun c1 => ihk.2 _ _ _ (((hR.2 c3).2 c2).2 c1)⟩⟩⟩
      · intro t li lj hR
        have hR : wbX11_keep_1 (wpX11_keep k) k t li lj Q := hR
        show wbX11_keep_1 (wpX11_keep k') k' t li lj Q'
        unfold wbX11_keep_1 at hR ⊢
        exact hQ _ _ hR
theorem wmX11_keep {k k' : Nat} {t : XT} {a1 : Int32} {Q Q' : Int32 → XT → Prop} (hk : k ≤ k') (hQ : (∀ (r : Int32) (t : XT), Q r t → Q' r t)) (hR : wqX11_keep k t a1 Q) : wqX11_keep k' t a1 Q' := (wnX11_keep Q Q' hQ k k' hk).1 _ _ _ hR
set_option maxHeartbeats 4000000 in
set_option maxRecDepth 100000 in
theorem wnX4_shared_c4 (Q Q' : Int32 → XT → Prop) (hQ : (∀ (r : Int32) (t : XT), Q r t → Q' r t)) : ∀ k k' : Nat, k ≤ k' → (∀ (t : XT) (li : Nat → Int32) (lj : Nat → Int64), wpX4_shared_c4 k 0 t li lj Q → wpX4_shared_c4 k' 0 t li lj Q') ∧ (∀ (t : XT) (li : Nat → Int32) (lj : Nat → Int64), wpX4_shared_c4 k 1 t li lj Q → wpX4_shared_c4 k' 1 t li lj Q') ∧ (∀ (t : XT) (li : Nat → Int32) (lj : Nat → Int64), wpX4_shared_c4 k 2 t li lj Q → wpX4_shared_c4 k' 2 t li lj Q') := by
  intro k
  induction k with
  | zero => intro k' _; exact ⟨fun _ _ _ hR => False.elim hR, fun _ _ _ hR => False.elim hR, fun _ _ _ hR => False.elim hR⟩
  | succ k ih =>
    intro k' hk
    cases k' with
    | zero => exact absurd hk (Nat.not_succ_le_zero k)
    | succ k' =>
      have hk := Nat.le_of_succ_le_succ hk
      have ihk := ih k' hk
      refine ⟨?_, ?_, ?_⟩
      · intro t li lj hR
        have hR : wbX4_shared_c4_0 (wpX4_shared_c4 k) k t li lj Q := hR
        show wbX4_shared_c4_0 (wpX4_shared_c4 k') k' t li lj Q'
        unfold wbX4_shared_c4_0 at hR ⊢
        exact ihk.2.1 _ _ _ hR
      · intro t li lj hR
        have hR : wbX4_shared_c4_1 (wpX4_shared_c4 k) k t li lj Q := hR
        show wbX4_shared_c4_1 (wpX4_shared_c4 k') k' t li lj Q'
        unfold wbX4_shared_c4_1 at hR ⊢
        exact ⟨fun c3 => hQ _ _ (hR.1 c3), fun c3 => ⟨(hR.2 c3).1, fun x4 e4 => ⟨fun c2 => ihk.2.2 _ _ _ (((hR.2 c3).2 x4 e4).1 c2), fun c2 => ⟨(((hR.2 c3).2 x4 e4).2 c2).1, fun x5 e5 => fun x6 e6 => fun x7 e7 => ⟨((((((hR.2 c3).2 x4 e4).2 c2).2 x5 e5) x6 e6) x7 e7).1, fun x8 e8 => ⟨fun c1 => ihk.2.2 _ _ _ ((((((((hR.2 c3).2 x4 e4).2 c2).2 x5 e5) x6 e6) x7 e7).2 x8 e8).1 c1), fun c1 => fun x9 e9 => ihk.2.2 _ _ _ (((((((((hR.2 c3).2 x4 e4).2 c2).2 x5 e5) x6 e6) x7 e7).2 x8 e8).2 c1) x9 e9)⟩⟩⟩⟩⟩⟩
      · intro t li lj hR
        have hR : wbX4_shared_c4_2 (wpX4_shared_c4 k) k t li lj Q := hR
        show wbX4_shared_c4_2 (wpX4_shared_c4 k') k' t li lj Q'
        unfold wbX4_shared_c4_2 at hR ⊢
        exact fun x10 e10 => ihk.2.1 _ _ _ (hR x10 e10)
theorem wmX4_shared_c4 {k k' : Nat} {t : XT} {a1 : Int32} {Q Q' : Int32 → XT → Prop} (hk : k ≤ k') (hQ : (∀ (r : Int32) (t : XT), Q r t → Q' r t)) (hR : wqX4_shared_c4 k t a1 Q) : wqX4_shared_c4 k' t a1 Q' := (wnX4_shared_c4 Q Q' hQ k k' hk).1 _ _ _ hR
set_option maxHeartbeats 4000000 in
set_option maxRecDepth 100000 in
theorem wnX11_same (Q Q' : Int32 → XT → Prop) (hQ : (∀ (r : Int32) (t : XT), Q r t → Q' r t)) : ∀ k k' : Nat, k ≤ k' → (∀ (t : XT) (li : Nat → Int32) (lj : Nat → Int64), wpX11_same k 0 t li lj Q → wpX11_same k' 0 t li lj Q') ∧ (∀ (t : XT) (li : Nat → Int32) (lj : Nat → Int64), wpX11_same k 1 t li lj Q → wpX11_same k' 1 t li lj Q') := by
  intro k
  induction k with
  | zero => intro k' _; exact ⟨fun _ _ _ hR => False.elim hR, fun _ _ _ hR => False.elim hR⟩
  | succ k ih =>
    intro k' hk
    cases k' with
    | zero => exact absurd hk (Nat.not_succ_le_zero k)
    | succ k' =>
      have hk := Nat.le_of_succ_le_succ hk
      have ihk := ih k' hk
      refine ⟨?_, ?_⟩
      · intro t li lj hR
        have hR : wbX11_same_0 (wpX11_same k) k t li lj Q := hR
        show wbX11_same_0 (wpX11_same k') k' t li lj Q'
        unfold wbX11_same_0 at hR ⊢
        exact ⟨fun c3 => ihk.2 _ _ _ (hR.1 c3), fun c3 => ⟨fun c2 => wmX11_isIn hk (fun y4_0 h4 => ⟨fun c1 => wmX4_shared_c4 hk (fun y5_0 y5_1 h5 => hQ _ _ h5) (h4.1 c1), fun c1 => hQ _ _ (h4.2 c1)⟩) ((hR.2 c3).1 c2), fun c2 => ihk.2 _ _ _ ((hR.2 c3).2 c2)⟩⟩
      · intro t li lj hR
        have hR : wbX11_same_1 (wpX11_same k) k t li lj Q := hR
        show wbX11_same_1 (wpX11_same k') k' t li lj Q'
        unfold wbX11_same_1 at hR ⊢
        exact hQ _ _ hR
theorem wmX11_same {k k' : Nat} {t : XT} {a1 : Int32} {Q Q' : Int32 → XT → Prop} (hk : k ≤ k') (hQ : (∀ (r : Int32) (t : XT), Q r t → Q' r t)) (hR : wqX11_same k t a1 Q) : wqX11_same k' t a1 Q' := (wnX11_same Q Q' hQ k k' hk).1 _ _ _ hR
set_option maxHeartbeats 4000000 in
set_option maxRecDepth 100000 in
theorem wnX9_hangingWith (Q Q' : Int64 → XT → Prop) (hQ : (∀ (r : Int64) (t : XT), Q r t → Q' r t)) : ∀ k k' : Nat, k ≤ k' → (∀ (t : XT) (li : Nat → Int32) (lj : Nat → Int64), wpX9_hangingWith k 0 t li lj Q → wpX9_hangingWith k' 0 t li lj Q') ∧ (∀ (t : XT) (li : Nat → Int32) (lj : Nat → Int64), wpX9_hangingWith k 1 t li lj Q → wpX9_hangingWith k' 1 t li lj Q') ∧ (∀ (t : XT) (li : Nat → Int32) (lj : Nat → Int64), wpX9_hangingWith k 2 t li lj Q → wpX9_hangingWith k' 2 t li lj Q') := by
  intro k
  induction k with
  | zero => intro k' _; exact ⟨fun _ _ _ hR => False.elim hR, fun _ _ _ hR => False.elim hR, fun _ _ _ hR => False.elim hR⟩
  | succ k ih =>
    intro k' hk
    cases k' with
    | zero => exact absurd hk (Nat.not_succ_le_zero k)
    | succ k' =>
      have hk := Nat.le_of_succ_le_succ hk
      have ihk := ih k' hk
      refine ⟨?_, ?_, ?_⟩
      · intro t li lj hR
        have hR : wbX9_hangingWith_0 (wpX9_hangingWith k) k t li lj Q := hR
        show wbX9_hangingWith_0 (wpX9_hangingWith k') k' t li lj Q'
        unfold wbX9_hangingWith_0 at hR ⊢
        exact wmX11_bit hk (fun y3_0 h3 => ihk.2.1 _ _ _ h3) hR
      · intro t li lj hR
        have hR : wbX9_hangingWith_1 (wpX9_hangingWith k) k t li lj Q := hR
        show wbX9_hangingWith_1 (wpX9_hangingWith k') k' t li lj Q'
        unfold wbX9_hangingWith_1 at hR ⊢
        exact ⟨fun c2 => ihk.2.2 _ _ _ (hR.1 c2), fun c2 => fun x4 e4 => ⟨fun c1 => ihk.2.2 _ _ _ (((hR.2 c2) x4 e4).1 c1), fun c1 => wmX11_lowest hk (fun y5_0 h5 => ⟨h5.1, fun x6 e6 => ⟨(h5.2 x6 e6).1, fun x7 e7 => fun x8 e8 => fun x9 e9 => fun x10 e10 => fun x11 e11 => fun x12 e12 => fun x13 e13 => wmX11_bit hk (fun y14_0 h14 => fun x15 e15 => fun x16 e16 => fun x17 e17 => ihk.2.1 _ _ _ (((h14 x15 e15) x16 e16) x17 e17)) ((((((((h5.2 x6 e6).2 x7 e7) x8 e8) x9 e9) x10 e10) x11 e11) x12 e12) x13 e13)⟩⟩) (((hR.2 c2) x4 e4).2 c1)⟩⟩
      · intro t li lj hR
        have hR : wbX9_hangingWith_2 (wpX9_hangingWith k) k t li lj Q := hR
        show wbX9_hangingWith_2 (wpX9_hangingWith k') k' t li lj Q'
        unfold wbX9_hangingWith_2 at hR ⊢
        exact hQ _ _ hR
theorem wmX9_hangingWith {k k' : Nat} {t : XT} {a1 : Int32} {a2 : Int64} {Q Q' : Int64 → XT → Prop} (hk : k ≤ k') (hQ : (∀ (r : Int64) (t : XT), Q r t → Q' r t)) (hR : wqX9_hangingWith k t a1 a2 Q) : wqX9_hangingWith k' t a1 a2 Q' := (wnX9_hangingWith Q Q' hQ k k' hk).1 _ _ _ hR
set_option maxHeartbeats 4000000 in
set_option maxRecDepth 100000 in
theorem wnX9_partsOf (Q Q' : Int32 → XT → Prop) (hQ : (∀ (r : Int32) (t : XT), Q r t → Q' r t)) : ∀ k k' : Nat, k ≤ k' → (∀ (t : XT) (li : Nat → Int32) (lj : Nat → Int64), wpX9_partsOf k 0 t li lj Q → wpX9_partsOf k' 0 t li lj Q') ∧ (∀ (t : XT) (li : Nat → Int32) (lj : Nat → Int64), wpX9_partsOf k 1 t li lj Q → wpX9_partsOf k' 1 t li lj Q') ∧ (∀ (t : XT) (li : Nat → Int32) (lj : Nat → Int64), wpX9_partsOf k 2 t li lj Q → wpX9_partsOf k' 2 t li lj Q') := by
  intro k
  induction k with
  | zero => intro k' _; exact ⟨fun _ _ _ hR => False.elim hR, fun _ _ _ hR => False.elim hR, fun _ _ _ hR => False.elim hR⟩
  | succ k ih =>
    intro k' hk
    cases k' with
    | zero => exact absurd hk (Nat.not_succ_le_zero k)
    | succ k' =>
      have hk := Nat.le_of_succ_le_succ hk
      have ihk := ih k' hk
      refine ⟨?_, ?_, ?_⟩
      · intro t li lj hR
        have hR : wbX9_partsOf_0 (wpX9_partsOf k) k t li lj Q := hR
        show wbX9_partsOf_0 (wpX9_partsOf k') k' t li lj Q'
        unfold wbX9_partsOf_0 at hR ⊢
        exact ihk.2.1 _ _ _ hR
      · intro t li lj hR
        have hR : wbX9_partsOf_1 (wpX9_partsOf k) k t li lj Q := hR
        show wbX9_partsOf_1 (wpX9_partsOf k') k' t li lj Q'
        unfold wbX9_partsOf_1 at hR ⊢
        exact fun x3 e3 => ⟨fun c2 => ihk.2.2 _ _ _ ((hR x3 e3).1 c2), fun c2 => ⟨fun c1 => ihk.2.2 _ _ _ (((hR x3 e3).2 c2).1 c1), fun c1 => wmX11_lowest hk (fun y4_0 h4 => wmX9_hangingWith hk (fun y5_0 y5_1 h5 => fun x6 e6 => fun x7 e7 => fun x8 e8 => ihk.2.1 _ _ _ (((h5 x6 e6) x7 e7) x8 e8)) h4) (((hR x3 e3).2 c2).2 c1)⟩⟩
      · intro t li lj hR
        have hR : wbX9_partsOf_2 (wpX9_partsOf k) k t li lj Q := hR
        show wbX9_partsOf_2 (wpX9_partsOf k') k' t li lj Q'
        unfold wbX9_partsOf_2 at hR ⊢
        exact hQ _ _ hR
theorem wmX9_partsOf {k k' : Nat} {t : XT} {a1 : Int64} {Q Q' : Int32 → XT → Prop} (hk : k ≤ k') (hQ : (∀ (r : Int32) (t : XT), Q r t → Q' r t)) (hR : wqX9_partsOf k t a1 Q) : wqX9_partsOf k' t a1 Q' := (wnX9_partsOf Q Q' hQ k k' hk).1 _ _ _ hR
set_option maxHeartbeats 4000000 in
set_option maxRecDepth 100000 in
theorem wnX11_count (Q Q' : Int32 → XT → Prop) (hQ : (∀ (r : Int32) (t : XT), Q r t → Q' r t)) : ∀ k k' : Nat, k ≤ k' → (∀ (t : XT) (li : Nat → Int32) (lj : Nat → Int64), wpX11_count k 0 t li lj Q → wpX11_count k' 0 t li lj Q') := by
  intro k
  induction k with
  | zero => intro k' _; exact fun _ _ _ hR => False.elim hR
  | succ k ih =>
    intro k' hk
    cases k' with
    | zero => exact absurd hk (Nat.not_succ_le_zero k)
    | succ k' =>
      have hk := Nat.le_of_succ_le_succ hk
      have ihk := ih k' hk
      intro t li lj hR
      have hR : wbX11_count_0 (wpX11_count k) k t li lj Q := hR
      show wbX11_count_0 (wpX11_count k') k' t li lj Q'
      unfold wbX11_count_0 at hR ⊢
      exact ⟨fun c1 => hQ _ _ (hR.1 c1), fun c1 => hQ _ _ (hR.2.1 c1), fun c1 => wmJ13_bitCount_95d88 hk (fun y2_0 h2 => hQ _ _ h2) (hR.2.2.1 c1), fun c1 => wmX9_greatestDim hk (fun y3_0 y3_1 h3 => hQ _ _ h3) (hR.2.2.2.1 c1), fun c1 => wmX6_howMany hk (fun y4_0 y4_1 h4 => hQ _ _ h4) (hR.2.2.2.2.1 c1), fun c1 => wmX11_criticalOnes hk (fun y5_0 y5_1 h5 => hQ _ _ h5) (hR.2.2.2.2.2.1 c1), fun c1 => wmX9_eulerOf hk (fun y6_0 y6_1 h6 => hQ _ _ h6) (hR.2.2.2.2.2.2.1 c1), fun c1 => wmX9_partsOf hk (fun y7_0 y7_1 h7 => hQ _ _ h7) (hR.2.2.2.2.2.2.2.1 c1), fun c1 => hQ _ _ (hR.2.2.2.2.2.2.2.2.1 c1), fun c1 => hQ _ _ (hR.2.2.2.2.2.2.2.2.2.1 c1), fun c1 => hQ _ _ (hR.2.2.2.2.2.2.2.2.2.2 c1)⟩
theorem wmX11_count {k k' : Nat} {t : XT} {a1 : Int32} {Q Q' : Int32 → XT → Prop} (hk : k ≤ k') (hQ : (∀ (r : Int32) (t : XT), Q r t → Q' r t)) (hR : wqX11_count k t a1 Q) : wqX11_count k' t a1 Q' := (wnX11_count Q Q' hQ k k' hk) _ _ _ hR
