set_option maxHeartbeats 4000000 in
set_option maxRecDepth 100000 in
theorem wnX11_isDim (Q Q' : Int32 → Prop) (hQ : (∀ (r : Int32), Q r → Q' r)) : ∀ k k' : Nat, k ≤ k' → (∀ (li : Nat → Int32) (lj : Nat → Int64), wpX11_isDim k 0 li lj Q → wpX11_isDim k' 0 li lj Q') ∧ (∀ (li : Nat → Int32) (lj : Nat → Int64), wpX11_isDim k 1 li lj Q → wpX11_isDim k' 1 li lj Q') := by
  intro k
  induction k with
  | zero => intro k' _; exact ⟨fun _ _ hR => False.elim hR, fun _ _ hR => False.elim hR⟩
  | succ k ih =>
    intro k' hk
    cases k' with
    | zero => exact absurd hk (Nat.not_succ_le_zero k)
    | succ k' =>
      have hk := Nat.le_of_succ_le_succ hk
      have ihk := ih k' hk
      refine ⟨?_, ?_⟩
      · intro li lj hR
        have hR : wbX11_isDim_0 (wpX11_isDim k) k li lj Q := hR
        show wbX11_isDim_0 (wpX11_isDim k') k' li lj Q'
        unfold wbX11_isDim_0 at hR ⊢
        exact ⟨fun c2 => ihk.2 _ _ (hR.1 c2), fun c2 => ⟨fun c1 => ihk.2 _ _ ((hR.2 c2).1 c1), fun c1 => hQ _ ((hR.2 c2).2 c1)⟩⟩
      · intro li lj hR
        have hR : wbX11_isDim_1 (wpX11_isDim k) k li lj Q := hR
        show wbX11_isDim_1 (wpX11_isDim k') k' li lj Q'
        unfold wbX11_isDim_1 at hR ⊢
        exact hQ _ hR
theorem wmX11_isDim {k k' : Nat} {a0 : Int32} {Q Q' : Int32 → Prop} (hk : k ≤ k') (hQ : (∀ (r : Int32), Q r → Q' r)) (hR : wqX11_isDim k a0 Q) : wqX11_isDim k' a0 Q' := (wnX11_isDim Q Q' hQ k k' hk).1 _ _ hR
set_option maxHeartbeats 4000000 in
set_option maxRecDepth 100000 in
theorem wnX11_listed (Q Q' : Int32 → Prop) (hQ : (∀ (r : Int32), Q r → Q' r)) : ∀ k k' : Nat, k ≤ k' → (∀ (li : Nat → Int32) (lj : Nat → Int64), wpX11_listed k 0 li lj Q → wpX11_listed k' 0 li lj Q') := by
  intro k
  induction k with
  | zero => intro k' _; exact fun _ _ hR => False.elim hR
  | succ k ih =>
    intro k' hk
    cases k' with
    | zero => exact absurd hk (Nat.not_succ_le_zero k)
    | succ k' =>
      have hk := Nat.le_of_succ_le_succ hk
      have ihk := ih k' hk
      intro li lj hR
      have hR : wbX11_listed_0 (wpX11_listed k) k li lj Q := hR
      show wbX11_listed_0 (wpX11_listed k') k' li lj Q'
      unfold wbX11_listed_0 at hR ⊢
      exact wmJ13_bitCount_95d88 hk (fun y3_0 h3 => ⟨fun c2 => ⟨fun c1 => hQ _ ((h3.1 c2).1 c1), fun c1 => wmX11_nth hk (fun y4_0 h4 => hQ _ h4) ((h3.1 c2).2 c1)⟩, fun c2 => hQ _ (h3.2 c2)⟩) hR
theorem wmX11_listed {k k' : Nat} {a0 : Int64} {a1 : Int32} {Q Q' : Int32 → Prop} (hk : k ≤ k') (hQ : (∀ (r : Int32), Q r → Q' r)) (hR : wqX11_listed k a0 a1 Q) : wqX11_listed k' a0 a1 Q' := (wnX11_listed Q Q' hQ k k' hk) _ _ hR
set_option maxHeartbeats 4000000 in
set_option maxRecDepth 100000 in
theorem wnX11_critical (Q Q' : Int32 → XT → Prop) (hQ : (∀ (r : Int32) (t : XT), Q r t → Q' r t)) : ∀ k k' : Nat, k ≤ k' → (∀ (t : XT) (li : Nat → Int32) (lj : Nat → Int64), wpX11_critical k 0 t li lj Q → wpX11_critical k' 0 t li lj Q') ∧ (∀ (t : XT) (li : Nat → Int32) (lj : Nat → Int64), wpX11_critical k 1 t li lj Q → wpX11_critical k' 1 t li lj Q') := by
  intro k
  induction k with
  | zero => intro k' _; exact ⟨fun _ _ _ hR => False.elim hR, fun _ _ _ hR => False.elim hR⟩
  | succ k ih =>
    intro k' hk
    cases k' with
    | zero => exact absurd hk (Nat.not_succ_le_zero k)
    | succ k' =>
      have hk := Nat.le_of_succ_le_succ hk
      have ihk := ih k' hk
      refine ⟨?_, ?_⟩
      · intro t li lj hR
        have hR : wbX11_critical_0 (wpX11_critical k) k t li lj Q := hR
        show wbX11_critical_0 (wpX11_critical k') k' t li lj Q'
        unfold wbX11_critical_0 at hR ⊢
        exact wmX11_isDim hk (fun y3_0 h3 => ⟨fun c2 => ihk.2 _ _ _ (h3.1 c2), fun c2 => ⟨fun c1 => wmX6_unpaired hk (fun y4_0 y4_1 h4 => ⟨h4.1, fun x5 e5 => fun x6 e6 => wmX11_listed hk (fun y7_0 h7 => hQ _ _ h7) ((h4.2 x5 e5) x6 e6)⟩) ((h3.2 c2).1 c1), fun c1 => ihk.2 _ _ _ ((h3.2 c2).2 c1)⟩⟩) hR
      · intro t li lj hR
        have hR : wbX11_critical_1 (wpX11_critical k) k t li lj Q := hR
        show wbX11_critical_1 (wpX11_critical k') k' t li lj Q'
        unfold wbX11_critical_1 at hR ⊢
        exact hQ _ _ hR
theorem wmX11_critical {k k' : Nat} {t : XT} {a1 : Int32} {a2 : Int32} {Q Q' : Int32 → XT → Prop} (hk : k ≤ k') (hQ : (∀ (r : Int32) (t : XT), Q r t → Q' r t)) (hR : wqX11_critical k t a1 a2 Q) : wqX11_critical k' t a1 a2 Q' := (wnX11_critical Q Q' hQ k k' hk).1 _ _ _ hR
set_option maxHeartbeats 4000000 in
set_option maxRecDepth 100000 in
theorem wnX11_paths (Q Q' : Int64 → XT → Prop) (hQ : (∀ (r : Int64) (t : XT), Q r t → Q' r t)) : ∀ k k' : Nat, k ≤ k' → (∀ (t : XT) (li : Nat → Int32) (lj : Nat → Int64), wpX11_paths k 0 t li lj Q → wpX11_paths k' 0 t li lj Q') := by
  intro k
  induction k with
  | zero => intro k' _; exact fun _ _ _ hR => False.elim hR
  | succ k ih =>
    intro k' hk
    cases k' with
    | zero => exact absurd hk (Nat.not_succ_le_zero k)
    | succ k' =>
      have hk := Nat.le_of_succ_le_succ hk
      have ihk := ih k' hk
      intro t li lj hR
      have hR : wbX11_paths_0 (wpX11_paths k) k t li lj Q := hR
      show wbX11_paths_0 (wpX11_paths k') k' t li lj Q'
      unfold wbX11_paths_0 at hR ⊢
      exact wmX11_areEnds hk (fun y2_0 y2_1 h2 => ⟨fun c1 => wmX1_countWays hk (fun y3_0 y3_1 h3 => hQ _ _ h3) (h2.1 c1), fun c1 => hQ _ _ (h2.2 c1)⟩) hR
theorem wmX11_paths {k k' : Nat} {t : XT} {a1 : Int32} {a2 : Int32} {Q Q' : Int64 → XT → Prop} (hk : k ≤ k') (hQ : (∀ (r : Int64) (t : XT), Q r t → Q' r t)) (hR : wqX11_paths k t a1 a2 Q) : wqX11_paths k' t a1 a2 Q' := (wnX11_paths Q Q' hQ k k' hk) _ _ _ hR
set_option maxHeartbeats 4000000 in
set_option maxRecDepth 100000 in
theorem wnX11_path (Q Q' : Int32 → XT → Prop) (hQ : (∀ (r : Int32) (t : XT), Q r t → Q' r t)) : ∀ k k' : Nat, k ≤ k' → (∀ (t : XT) (li : Nat → Int32) (lj : Nat → Int64), wpX11_path k 0 t li lj Q → wpX11_path k' 0 t li lj Q') ∧ (∀ (t : XT) (li : Nat → Int32) (lj : Nat → Int64), wpX11_path k 1 t li lj Q → wpX11_path k' 1 t li lj Q') := by
  intro k
  induction k with
  | zero => intro k' _; exact ⟨fun _ _ _ hR => False.elim hR, fun _ _ _ hR => False.elim hR⟩
  | succ k ih =>
    intro k' hk
    cases k' with
    | zero => exact absurd hk (Nat.not_succ_le_zero k)
    | succ k' =>
      have hk := Nat.le_of_succ_le_succ hk
      have ihk := ih k' hk
      refine ⟨?_, ?_⟩
      · intro t li lj hR
        have hR : wbX11_path_0 (wpX11_path k) k t li lj Q := hR
        show wbX11_path_0 (wpX11_path k') k' t li lj Q'
        unfold wbX11_path_0 at hR ⊢
        exact wmX11_areEnds hk (fun y7_0 y7_1 h7 => ⟨fun c6 => ihk.2 _ _ _ (h7.1 c6), fun c6 => ⟨fun c5 => ihk.2 _ _ _ ((h7.2 c6).1 c5), fun c5 => ⟨fun c4 => fun x8 e8 => wmX1_countWays hk (fun y9_0 y9_1 h9 => fun x10 e10 => ⟨fun c3 => fun x11 e11 => wmX1_trace hk (fun y12_0 y12_1 h12 => ⟨fun c2 => ⟨fun c1 => hQ _ _ ((h12.1 c2).1 c1), fun c1 => ⟨((h12.1 c2).2 c1).1, fun x13 e13 => hQ _ _ (((h12.1 c2).2 c1).2 x13 e13)⟩⟩, fun c2 => hQ _ _ (h12.2 c2)⟩) (((h9 x10 e10).1 c3) x11 e11), fun c3 => hQ _ _ ((h9 x10 e10).2 c3)⟩) ((((h7.2 c6).2 c5).1 c4) x8 e8), fun c4 => ihk.2 _ _ _ (((h7.2 c6).2 c5).2 c4)⟩⟩⟩) hR
      · intro t li lj hR
        have hR : wbX11_path_1 (wpX11_path k) k t li lj Q := hR
        show wbX11_path_1 (wpX11_path k') k' t li lj Q'
        unfold wbX11_path_1 at hR ⊢
        exact hQ _ _ hR
theorem wmX11_path {k k' : Nat} {t : XT} {a1 : Int32} {a2 : Int32} {a3 : Int32} {a4 : Int32} {Q Q' : Int32 → XT → Prop} (hk : k ≤ k') (hQ : (∀ (r : Int32) (t : XT), Q r t → Q' r t)) (hR : wqX11_path k t a1 a2 a3 a4 Q) : wqX11_path k' t a1 a2 a3 a4 Q' := (wnX11_path Q Q' hQ k k' hk).1 _ _ _ hR
set_option maxHeartbeats 4000000 in
set_option maxRecDepth 100000 in
theorem wnX1_start (Q Q' : XT → Prop) (hQ : (∀ (t : XT), Q t → Q' t)) : ∀ k k' : Nat, k ≤ k' → (∀ (t : XT) (li : Nat → Int32) (lj : Nat → Int64), wpX1_start k 0 t li lj Q → wpX1_start k' 0 t li lj Q') := by
  intro k
  induction k with
  | zero => intro k' _; exact fun _ _ _ hR => False.elim hR
  | succ k ih =>
    intro k' hk
    cases k' with
    | zero => exact absurd hk (Nat.not_succ_le_zero k)
    | succ k' =>
      have hk := Nat.le_of_succ_le_succ hk
      have ihk := ih k' hk
      intro t li lj hR
      have hR : wbX1_start_0 (wpX1_start k) k t li lj Q := hR
      show wbX1_start_0 (wpX1_start k') k' t li lj Q'
      unfold wbX1_start_0 at hR ⊢
      exact wmX2_measure hk (fun y1_0 h1 => fun x2 e2 => ⟨(h1 x2 e2).1, fun x3 e3 => hQ _ ((h1 x2 e2).2 x3 e3)⟩) hR
theorem wmX1_start {k k' : Nat} {t : XT} {a1 : Int32} {Q Q' : XT → Prop} (hk : k ≤ k') (hQ : (∀ (t : XT), Q t → Q' t)) (hR : wqX1_start k t a1 Q) : wqX1_start k' t a1 Q' := (wnX1_start Q Q' hQ k k' hk) _ _ _ hR
set_option maxHeartbeats 4000000 in
set_option maxRecDepth 100000 in
theorem wnX1_goDown (Q Q' : XT → Prop) (hQ : (∀ (t : XT), Q t → Q' t)) : ∀ k k' : Nat, k ≤ k' → (∀ (t : XT) (li : Nat → Int32) (lj : Nat → Int64), wpX1_goDown k 0 t li lj Q → wpX1_goDown k' 0 t li lj Q') ∧ (∀ (t : XT) (li : Nat → Int32) (lj : Nat → Int64), wpX1_goDown k 1 t li lj Q → wpX1_goDown k' 1 t li lj Q') ∧ (∀ (t : XT) (li : Nat → Int32) (lj : Nat → Int64), wpX1_goDown k 2 t li lj Q → wpX1_goDown k' 2 t li lj Q') := by
  intro k
  induction k with
  | zero => intro k' _; exact ⟨fun _ _ _ hR => False.elim hR, fun _ _ _ hR => False.elim hR, fun _ _ _ hR => False.elim hR⟩
  | succ k ih =>
    intro k' hk
    cases k' with
    | zero => exact absurd hk (Nat.not_succ_le_zero k)
    | succ k' =>
      have hk := Nat.le_of_succ_le_succ hk
      have ihk := ih k' hk
      refine ⟨?_, ?_, ?_⟩
      · intro t li lj hR
        have hR : wbX1_goDown_0 (wpX1_goDown k) k t li lj Q := hR
        show wbX1_goDown_0 (wpX1_goDown k') k' t li lj Q'
        unfold wbX1_goDown_0 at hR ⊢
        exact wmX6_below hk (fun y4_0 y4_1 h4 => ihk.2.1 _ _ _ h4) hR
      · intro t li lj hR
        have hR : wbX1_goDown_1 (wpX1_goDown k) k t li lj Q := hR
        show wbX1_goDown_1 (wpX1_goDown k') k' t li lj Q'
        unfold wbX1_goDown_1 at hR ⊢
        exact ⟨fun c3 => hQ _ (hR.1 c3), fun c3 => fun x5 e5 => ⟨fun c2 => hQ _ (((hR.2 c3) x5 e5).1 c2), fun c2 => wmX11_lowest hk (fun y6_0 h6 => fun x7 e7 => fun x8 e8 => ⟨((h6 x7 e7) x8 e8).1, fun x9 e9 => ⟨fun c1 => ⟨((((h6 x7 e7) x8 e8).2 x9 e9).1 c1).1, fun x10 e10 => ihk.2.2 _ _ _ (((((h6 x7 e7) x8 e8).2 x9 e9).1 c1).2 x10 e10)⟩, fun c1 => ⟨((((h6 x7 e7) x8 e8).2 x9 e9).2 c1).1, fun x11 e11 => wmX9_signOf hk (fun y12_0 y12_1 h12 => fun x13 e13 => fun x14 e14 => ihk.2.2 _ _ _ ((h12 x13 e13) x14 e14)) (((((h6 x7 e7) x8 e8).2 x9 e9).2 c1).2 x11 e11)⟩⟩⟩) (((hR.2 c3) x5 e5).2 c2)⟩⟩
      · intro t li lj hR
        have hR : wbX1_goDown_2 (wpX1_goDown k) k t li lj Q := hR
        show wbX1_goDown_2 (wpX1_goDown k') k' t li lj Q'
        unfold wbX1_goDown_2 at hR ⊢
        exact fun x15 e15 => ⟨(hR x15 e15).1, fun x16 e16 => fun x17 e17 => ihk.2.1 _ _ _ (((hR x15 e15).2 x16 e16) x17 e17)⟩
theorem wmX1_goDown {k k' : Nat} {t : XT} {a1 : Int32} {a2 : Int32} {Q Q' : XT → Prop} (hk : k ≤ k') (hQ : (∀ (t : XT), Q t → Q' t)) (hR : wqX1_goDown k t a1 a2 Q) : wqX1_goDown k' t a1 a2 Q' := (wnX1_goDown Q Q' hQ k k' hk).1 _ _ _ hR
set_option maxHeartbeats 4000000 in
set_option maxRecDepth 100000 in
theorem wnX1_goUp (Q Q' : XT → Prop) (hQ : (∀ (t : XT), Q t → Q' t)) : ∀ k k' : Nat, k ≤ k' → (∀ (t : XT) (li : Nat → Int32) (lj : Nat → Int64), wpX1_goUp k 0 t li lj Q → wpX1_goUp k' 0 t li lj Q') ∧ (∀ (t : XT) (li : Nat → Int32) (lj : Nat → Int64), wpX1_goUp k 1 t li lj Q → wpX1_goUp k' 1 t li lj Q') := by
  intro k
  induction k with
  | zero => intro k' _; exact ⟨fun _ _ _ hR => False.elim hR, fun _ _ _ hR => False.elim hR⟩
  | succ k ih =>
    intro k' hk
    cases k' with
    | zero => exact absurd hk (Nat.not_succ_le_zero k)
    | succ k' =>
      have hk := Nat.le_of_succ_le_succ hk
      have ihk := ih k' hk
      refine ⟨?_, ?_⟩
      · intro t li lj hR
        have hR : wbX1_goUp_0 (wpX1_goUp k) k t li lj Q := hR
        show wbX1_goUp_0 (wpX1_goUp k') k' t li lj Q'
        unfold wbX1_goUp_0 at hR ⊢
        exact ⟨hR.1, fun x3 e3 => ⟨fun c2 => ⟨((hR.2 x3 e3).1 c2).1, fun x4 e4 => ⟨fun c1 => ⟨((((hR.2 x3 e3).1 c2).2 x4 e4).1 c1).1, fun x5 e5 => ihk.2 _ _ _ (((((hR.2 x3 e3).1 c2).2 x4 e4).1 c1).2 x5 e5)⟩, fun c1 => ⟨((((hR.2 x3 e3).1 c2).2 x4 e4).2 c1).1, fun x6 e6 => fun x7 e7 => wmX9_signOf hk (fun y8_0 y8_1 h8 => fun x9 e9 => fun x10 e10 => ihk.2 _ _ _ ((h8 x9 e9) x10 e10)) ((((((hR.2 x3 e3).1 c2).2 x4 e4).2 c1).2 x6 e6) x7 e7)⟩⟩⟩, fun c2 => hQ _ ((hR.2 x3 e3).2 c2)⟩⟩
      · intro t li lj hR
        have hR : wbX1_goUp_1 (wpX1_goUp k) k t li lj Q := hR
        show wbX1_goUp_1 (wpX1_goUp k') k' t li lj Q'
        unfold wbX1_goUp_1 at hR ⊢
        exact fun x11 e11 => ⟨(hR x11 e11).1, fun x12 e12 => hQ _ ((hR x11 e11).2 x12 e12)⟩
theorem wmX1_goUp {k k' : Nat} {t : XT} {a1 : Int32} {a2 : Int32} {Q Q' : XT → Prop} (hk : k ≤ k') (hQ : (∀ (t : XT), Q t → Q' t)) (hR : wqX1_goUp k t a1 a2 Q) : wqX1_goUp k' t a1 a2 Q' := (wnX1_goUp Q Q' hQ k k' hk).1 _ _ _ hR
set_option maxHeartbeats 4000000 in
set_option maxRecDepth 100000 in
theorem wnX1_pour (Q Q' : XT → Prop) (hQ : (∀ (t : XT), Q t → Q' t)) : ∀ k k' : Nat, k ≤ k' → (∀ (t : XT) (li : Nat → Int32) (lj : Nat → Int64), wpX1_pour k 0 t li lj Q → wpX1_pour k' 0 t li lj Q') ∧ (∀ (t : XT) (li : Nat → Int32) (lj : Nat → Int64), wpX1_pour k 1 t li lj Q → wpX1_pour k' 1 t li lj Q') ∧ (∀ (t : XT) (li : Nat → Int32) (lj : Nat → Int64), wpX1_pour k 2 t li lj Q → wpX1_pour k' 2 t li lj Q') ∧ (∀ (t : XT) (li : Nat → Int32) (lj : Nat → Int64), wpX1_pour k 3 t li lj Q → wpX1_pour k' 3 t li lj Q') := by
  intro k
  induction k with
  | zero => intro k' _; exact ⟨fun _ _ _ hR => False.elim hR, fun _ _ _ hR => False.elim hR, fun _ _ _ hR => False.elim hR, fun _ _ _ hR => False.elim hR⟩
  | succ k ih =>
    intro k' hk
    cases k' with
    | zero => exact absurd hk (Nat.not_succ_le_zero k)
    | succ k' =>
      have hk := Nat.le_of_succ_le_succ hk
      have ihk := ih k' hk
      refine ⟨?_, ?_, ?_, ?_⟩
      · intro t li lj hR
        have hR : wbX1_pour_0 (wpX1_pour k) k t li lj Q := hR
        show wbX1_pour_0 (wpX1_pour k') k' t li lj Q'
        unfold wbX1_pour_0 at hR ⊢
        exact fun x6 e6 => ihk.2.1 _ _ _ (hR x6 e6)
      · intro t li lj hR
        have hR : wbX1_pour_1 (wpX1_pour k) k t li lj Q := hR
        show wbX1_pour_1 (wpX1_pour k') k' t li lj Q'
        unfold wbX1_pour_1 at hR ⊢
        exact ⟨fun c3 => hQ _ (hR.1 c3), fun c3 => ⟨(hR.2 c3).1, fun x7 e7 => ⟨((hR.2 c3).2 x7 e7).1, fun x8 e8 => fun x9 e9 => ⟨fun c2 => ihk.2.2.1 _ _ _ (((((hR.2 c3).2 x7 e7).2 x8 e8) x9 e9).1 c2), fun c2 => ⟨(((((hR.2 c3).2 x7 e7).2 x8 e8) x9 e9).2 c2).1, fun x10 e10 => ⟨fun c1 => ihk.2.2.1 _ _ _ (((((((hR.2 c3).2 x7 e7).2 x8 e8) x9 e9).2 c2).2 x10 e10).1 c1), fun c1 => wmX1_goDown hk (fun y11_0 h11 => ihk.2.2.2 _ _ _ h11) (((((((hR.2 c3).2 x7 e7).2 x8 e8) x9 e9).2 c2).2 x10 e10).2 c1)⟩⟩⟩⟩⟩⟩
      · intro t li lj hR
        have hR : wbX1_pour_2 (wpX1_pour k) k t li lj Q := hR
        show wbX1_pour_2 (wpX1_pour k') k' t li lj Q'
        unfold wbX1_pour_2 at hR ⊢
        exact ⟨hR.1, fun x12 e12 => fun x13 e13 => ⟨fun c5 => ihk.2.2.2 _ _ _ (((hR.2 x12 e12) x13 e13).1 c5), fun c5 => ⟨(((hR.2 x12 e12) x13 e13).2 c5).1, fun x14 e14 => fun x15 e15 => ⟨fun c4 => ihk.2.2.2 _ _ _ ((((((hR.2 x12 e12) x13 e13).2 c5).2 x14 e14) x15 e15).1 c4), fun c4 => wmX1_goUp hk (fun y16_0 h16 => ihk.2.2.2 _ _ _ h16) ((((((hR.2 x12 e12) x13 e13).2 c5).2 x14 e14) x15 e15).2 c4)⟩⟩⟩⟩
      · intro t li lj hR
        have hR : wbX1_pour_3 (wpX1_pour k) k t li lj Q := hR
        show wbX1_pour_3 (wpX1_pour k') k' t li lj Q'
        unfold wbX1_pour_3 at hR ⊢
        exact fun x17 e17 => ihk.2.1 _ _ _ (hR x17 e17)
theorem wmX1_pour {k k' : Nat} {t : XT} {a1 : Int32} {a2 : Int32} {Q Q' : XT → Prop} (hk : k ≤ k') (hQ : (∀ (t : XT), Q t → Q' t)) (hR : wqX1_pour k t a1 a2 Q) : wqX1_pour k' t a1 a2 Q' := (wnX1_pour Q Q' hQ k k' hk).1 _ _ _ hR
set_option maxHeartbeats 4000000 in
set_option maxRecDepth 100000 in
theorem wnX11_incidence (Q Q' : Int64 → XT → Prop) (hQ : (∀ (r : Int64) (t : XT), Q r t → Q' r t)) : ∀ k k' : Nat, k ≤ k' → (∀ (t : XT) (li : Nat → Int32) (lj : Nat → Int64), wpX11_incidence k 0 t li lj Q → wpX11_incidence k' 0 t li lj Q') := by
  intro k
  induction k with
  | zero => intro k' _; exact fun _ _ _ hR => False.elim hR
  | succ k ih =>
    intro k' hk
    cases k' with
    | zero => exact absurd hk (Nat.not_succ_le_zero k)
    | succ k' =>
      have hk := Nat.le_of_succ_le_succ hk
      have ihk := ih k' hk
      intro t li lj hR
      have hR : wbX11_incidence_0 (wpX11_incidence k) k t li lj Q := hR
      show wbX11_incidence_0 (wpX11_incidence k') k' t li lj Q'
      unfold wbX11_incidence_0 at hR ⊢
      exact wmX11_areEnds hk (fun y2_0 y2_1 h2 => ⟨fun c1 => wmX1_start hk (fun y3_0 h3 => ⟨h3.1, fun x4 e4 => wmX1_pour hk (fun y5_0 h5 => ⟨h5.1, fun x6 e6 => hQ _ _ (h5.2 x6 e6)⟩) (h3.2 x4 e4)⟩) (h2.1 c1), fun c1 => hQ _ _ (h2.2 c1)⟩) hR
theorem wmX11_incidence {k k' : Nat} {t : XT} {a1 : Int32} {a2 : Int32} {Q Q' : Int64 → XT → Prop} (hk : k ≤ k') (hQ : (∀ (r : Int64) (t : XT), Q r t → Q' r t)) (hR : wqX11_incidence k t a1 a2 Q) : wqX11_incidence k' t a1 a2 Q' := (wnX11_incidence Q Q' hQ k k' hk) _ _ _ hR
set_option maxHeartbeats 4000000 in
set_option maxRecDepth 100000 in
theorem wnX11_chain (Q Q' : Int64 → XT → Prop) (hQ : (∀ (r : Int64) (t : XT), Q r t → Q' r t)) : ∀ k k' : Nat, k ≤ k' → (∀ (t : XT) (li : Nat → Int32) (lj : Nat → Int64), wpX11_chain k 0 t li lj Q → wpX11_chain k' 0 t li lj Q') ∧ (∀ (t : XT) (li : Nat → Int32) (lj : Nat → Int64), wpX11_chain k 1 t li lj Q → wpX11_chain k' 1 t li lj Q') := by
  intro k
  induction k with
  | zero => intro k' _; exact ⟨fun _ _ _ hR => False.elim hR, fun _ _ _ hR => False.elim hR⟩
  | succ k ih =>
    intro k' hk
    cases k' with
    | zero => exact absurd hk (Nat.not_succ_le_zero k)
    | succ k' =>
      have hk := Nat.le_of_succ_le_succ hk
      have ihk := ih k' hk
      refine ⟨?_, ?_⟩
      · intro t li lj hR
        have hR : wbX11_chain_0 (wpX11_chain k) k t li lj Q := hR
        show wbX11_chain_0 (wpX11_chain k') k' t li lj Q'
        unfold wbX11_chain_0 at hR ⊢
        exact wmX11_isThere hk (fun y5_0 y5_1 h5 => ⟨fun c4 => ihk.2 _ _ _ (h5.1 c4), fun c4 => wmX11_isThere hk (fun y6_0 y6_1 h6 => ⟨fun c3 => ihk.2 _ _ _ (h6.1 c3), fun c3 => wmX6_isCritical hk (fun y7_0 y7_1 h7 => ⟨fun c2 => ⟨(h7.1 c2).1, fun x8 e8 => ⟨((h7.1 c2).2 x8 e8).1, fun x9 e9 => ⟨fun c1 => wmX1_start hk (fun y10_0 h10 => ⟨h10.1, fun x11 e11 => wmX1_pour hk (fun y12_0 h12 => ⟨h12.1, fun x13 e13 => hQ _ _ (h12.2 x13 e13)⟩) (h10.2 x11 e11)⟩) ((((h7.1 c2).2 x8 e8).2 x9 e9).1 c1), fun c1 => hQ _ _ ((((h7.1 c2).2 x8 e8).2 x9 e9).2 c1)⟩⟩⟩, fun c2 => ihk.2 _ _ _ (h7.2 c2)⟩) (h6.2 c3)⟩) (h5.2 c4)⟩) hR
      · intro t li lj hR
        have hR : wbX11_chain_1 (wpX11_chain k) k t li lj Q := hR
        show wbX11_chain_1 (wpX11_chain k') k' t li lj Q'
        unfold wbX11_chain_1 at hR ⊢
        exact hQ _ _ hR
theorem wmX11_chain {k k' : Nat} {t : XT} {a1 : Int32} {a2 : Int32} {Q Q' : Int64 → XT → Prop} (hk : k ≤ k') (hQ : (∀ (r : Int64) (t : XT), Q r t → Q' r t)) (hR : wqX11_chain k t a1 a2 Q) : wqX11_chain k' t a1 a2 Q' := (wnX11_chain Q Q' hQ k k' hk).1 _ _ _ hR
set_option maxHeartbeats 4000000 in
set_option maxRecDepth 100000 in
theorem wnX11_root (Q Q' : Int32 → XT → Prop) (hQ : (∀ (r : Int32) (t : XT), Q r t → Q' r t)) : ∀ k k' : Nat, k ≤ k' → (∀ (t : XT) (li : Nat → Int32) (lj : Nat → Int64), wpX11_root k 0 t li lj Q → wpX11_root k' 0 t li lj Q') ∧ (∀ (t : XT) (li : Nat → Int32) (lj : Nat → Int64), wpX11_root k 1 t li lj Q → wpX11_root k' 1 t li lj Q') ∧ (∀ (t : XT) (li : Nat → Int32) (lj : Nat → Int64), wpX11_root k 2 t li lj Q → wpX11_root k' 2 t li lj Q') ∧ (∀ (t : XT) (li : Nat → Int32) (lj : Nat → Int64), wpX11_root k 3 t li lj Q → wpX11_root k' 3 t li lj Q') := by
  intro k
  induction k with
  | zero => intro k' _; exact ⟨fun _ _ _ hR => False.elim hR, fun _ _ _ hR => False.elim hR, fun _ _ _ hR => False.elim hR, fun _ _ _ hR => False.elim hR⟩
  | succ k ih =>
    intro k' hk
    cases k' with
    | zero => exact absurd hk (Nat.not_succ_le_zero k)
    | succ k' =>
      have hk := Nat.le_of_succ_le_succ hk
      have ihk := ih k' hk
      refine ⟨?_, ?_, ?_, ?_⟩
      · intro t li lj hR
        have hR : wbX11_root_0 (wpX11_root k) k t li lj Q := hR
        show wbX11_root_0 (wpX11_root k') k' t li lj Q'
        unfold wbX11_root_0 at hR ⊢
        exact wmX11_isThere hk (fun y8_0 y8_1 h8 => ⟨fun c4 => ihk.2.1 _ _ _ (h8.1 c4), fun c4 => ⟨(h8.2 c4).1, fun x9 e9 => ⟨fun c3 => ihk.2.1 _ _ _ (((h8.2 c4).2 x9 e9).1 c3), fun c3 => ⟨fun c2 => ihk.2.1 _ _ _ ((((h8.2 c4).2 x9 e9).2 c3).1 c2), fun c2 => ⟨fun c1 => ihk.2.2.1 _ _ _ (((((h8.2 c4).2 x9 e9).2 c3).2 c2).1 c1), fun c1 => ihk.2.1 _ _ _ (((((h8.2 c4).2 x9 e9).2 c3).2 c2).2 c1)⟩⟩⟩⟩⟩) hR
      · intro t li lj hR
        have hR : wbX11_root_1 (wpX11_root k) k t li lj Q := hR
        show wbX11_root_1 (wpX11_root k') k' t li lj Q'
        unfold wbX11_root_1 at hR ⊢
        exact hQ _ _ hR
      · intro t li lj hR
        have hR : wbX11_root_2 (wpX11_root k) k t li lj Q := hR
        show wbX11_root_2 (wpX11_root k') k' t li lj Q'
        unfold wbX11_root_2 at hR ⊢
        exact ⟨fun c6 => ihk.2.2.2 _ _ _ (hR.1 c6), fun c6 => ⟨(hR.2 c6).1, fun x10 e10 => ⟨fun c5 => ihk.2.2.2 _ _ _ (((hR.2 c6).2 x10 e10).1 c5), fun c5 => ⟨(((hR.2 c6).2 x10 e10).2 c5).1, fun x11 e11 => ⟨((((hR.2 c6).2 x10 e10).2 c5).2 x11 e11).1, fun x12 e12 => wmX11_bit hk (fun y13_0 h13 => fun x14 e14 => fun x15 e15 => wmX11_lowest hk (fun y16_0 h16 => fun x17 e17 => fun x18 e18 => ihk.2.2.1 _ _ _ ((h16 x17 e17) x18 e18)) ((h13 x14 e14) x15 e15)) (((((hR.2 c6).2 x10 e10).2 c5).2 x11 e11).2 x12 e12)⟩⟩⟩⟩⟩
      · intro t li lj hR
        have hR : wbX11_root_3 (wpX11_root k) k t li lj Q := hR
        show wbX11_root_3 (wpX11_root k') k' t li lj Q'
        unfold wbX11_root_3 at hR ⊢
        exact ⟨fun c7 => hQ _ _ (hR.1 c7), fun c7 => hQ _ _ (hR.2 c7)⟩
theorem wmX11_root {k k' : Nat} {t : XT} {a1 : Int32} {a2 : Int32} {Q Q' : Int32 → XT → Prop} (hk : k ≤ k') (hQ : (∀ (r : Int32) (t : XT), Q r t → Q' r t)) (hR : wqX11_root k t a1 a2 Q) : wqX11_root k' t a1 a2 Q' := (wnX11_root Q Q' hQ k k' hk).1 _ _ _ hR
set_option maxHeartbeats 4000000 in
set_option maxRecDepth 100000 in
theorem wnX11_through (Q Q' : Int64 → XT → Prop) (hQ : (∀ (r : Int64) (t : XT), Q r t → Q' r t)) : ∀ k k' : Nat, k ≤ k' → (∀ (t : XT) (li : Nat → Int32) (lj : Nat → Int64), wpX11_through k 0 t li lj Q → wpX11_through k' 0 t li lj Q') ∧ (∀ (t : XT) (li : Nat → Int32) (lj : Nat → Int64), wpX11_through k 1 t li lj Q → wpX11_through k' 1 t li lj Q') := by
  intro k
  induction k with
  | zero => intro k' _; exact ⟨fun _ _ _ hR => False.elim hR, fun _ _ _ hR => False.elim hR⟩
  | succ k ih =>
    intro k' hk
    cases k' with
    | zero => exact absurd hk (Nat.not_succ_le_zero k)
    | succ k' =>
      have hk := Nat.le_of_succ_le_succ hk
      have ihk := ih k' hk
      refine ⟨?_, ?_⟩
      · intro t li lj hR
        have hR : wbX11_through_0 (wpX11_through k) k t li lj Q := hR
        show wbX11_through_0 (wpX11_through k') k' t li lj Q'
        unfold wbX11_through_0 at hR ⊢
        exact wmX11_areEnds hk (fun y3_0 y3_1 h3 => ⟨fun c2 => ihk.2 _ _ _ (h3.1 c2), fun c2 => wmX11_isThere hk (fun y4_0 y4_1 h4 => ⟨fun c1 => wmX1_start hk (fun y5_0 h5 => ⟨h5.1, fun x6 e6 => wmX1_pour hk (fun y7_0 h7 => wmX1_countWays hk (fun y8_0 y8_1 h8 => ⟨h8.1, fun x9 e9 => ⟨(h8.2 x9 e9).1, fun x10 e10 => fun x11 e11 => hQ _ _ (((h8.2 x9 e9).2 x10 e10) x11 e11)⟩⟩) h7) (h5.2 x6 e6)⟩) (h4.1 c1), fun c1 => ihk.2 _ _ _ (h4.2 c1)⟩) (h3.2 c2)⟩) hR
      · intro t li lj hR
        have hR : wbX11_through_1 (wpX11_through k) k t li lj Q := hR
        show wbX11_through_1 (wpX11_through k') k' t li lj Q'
        unfold wbX11_through_1 at hR ⊢
        exact hQ _ _ hR
theorem wmX11_through {k k' : Nat} {t : XT} {a1 : Int32} {a2 : Int32} {a3 : Int32} {Q Q' : Int64 → XT → Prop} (hk : k ≤ k') (hQ : (∀ (r : Int64) (t : XT), Q r t → Q' r t)) (hR : wqX11_through k t a1 a2 a3 Q) : wqX11_through k' t a1 a2 a3 Q' := (wnX11_through Q Q' hQ k k' hk).1 _ _ _ hR
set_option maxHeartbeats 4000000 in
set_option maxRecDepth 100000 in
theorem wnX1_holdOnly (Q Q' : XT → Prop) (hQ : (∀ (t : XT), Q t → Q' t)) : ∀ k k' : Nat, k ≤ k' → (∀ (t : XT) (li : Nat → Int32) (lj : Nat → Int64), wpX1_holdOnly k 0 t li lj Q → wpX1_holdOnly k' 0 t li lj Q') ∧ (∀ (t : XT) (li : Nat → Int32) (lj : Nat → Int64), wpX1_holdOnly k 1 t li lj Q → wpX1_holdOnly k' 1 t li lj Q') ∧ (∀ (t : XT) (li : Nat → Int32) (lj : Nat → Int64), wpX1_holdOnly k 2 t li lj Q → wpX1_holdOnly k' 2 t li lj Q') := by
  intro k
  induction k with
  | zero => intro k' _; exact ⟨fun _ _ _ hR => False.elim hR, fun _ _ _ hR => False.elim hR, fun _ _ _ hR => False.elim hR⟩
  | succ k ih =>
    intro k' hk
    cases k' with
    | zero => exact absurd hk (Nat.not_succ_le_zero k)
    | succ k' =>
      have hk := Nat.le_of_succ_le_succ hk
      have ihk := ih k' hk
      refine ⟨?_, ?_, ?_⟩
      · intro t li lj hR
        have hR : wbX1_holdOnly_0 (wpX1_holdOnly k) k t li lj Q := hR
        show wbX1_holdOnly_0 (wpX1_holdOnly k') k' t li lj Q'
        unfold wbX1_holdOnly_0 at hR ⊢
        exact ihk.2.1 _ _ _ hR
      · intro t li lj hR
        have hR : wbX1_holdOnly_1 (wpX1_holdOnly k) k t li lj Q := hR
        show wbX1_holdOnly_1 (wpX1_holdOnly k') k' t li lj Q'
        unfold wbX1_holdOnly_1 at hR ⊢
        exact ⟨fun c2 => hQ _ (hR.1 c2), fun c2 => wmX11_isIn hk (fun y3_0 h3 => ⟨fun c1 => ihk.2.2 _ _ _ (h3.1 c1), fun c1 => ⟨(h3.2 c1).1, fun x4 e4 => ihk.2.2 _ _ _ ((h3.2 c1).2 x4 e4)⟩⟩) (hR.2 c2)⟩
      · intro t li lj hR
        have hR : wbX1_holdOnly_2 (wpX1_holdOnly k) k t li lj Q := hR
        show wbX1_holdOnly_2 (wpX1_holdOnly k') k' t li lj Q'
        unfold wbX1_holdOnly_2 at hR ⊢
        exact fun x5 e5 => ihk.2.1 _ _ _ (hR x5 e5)
theorem wmX1_holdOnly {k k' : Nat} {t : XT} {a1 : Int64} {Q Q' : XT → Prop} (hk : k ≤ k') (hQ : (∀ (t : XT), Q t → Q' t)) (hR : wqX1_holdOnly k t a1 Q) : wqX1_holdOnly k' t a1 Q' := (wnX1_holdOnly Q Q' hQ k k' hk).1 _ _ _ hR
set_option maxHeartbeats 4000000 in
set_option maxRecDepth 100000 in
theorem wnX11_squaresFrom (Q Q' : Int32 → XT → Prop) (hQ : (∀ (r : Int32) (t : XT), Q r t → Q' r t)) : ∀ k k' : Nat, k ≤ k' → (∀ (t : XT) (li : Nat → Int32) (lj : Nat → Int64), wpX11_squaresFrom k 0 t li lj Q → wpX11_squaresFrom k' 0 t li lj Q') ∧ (∀ (t : XT) (li : Nat → Int32) (lj : Nat → Int64), wpX11_squaresFrom k 1 t li lj Q → wpX11_squaresFrom k' 1 t li lj Q') ∧ (∀ (t : XT) (li : Nat → Int32) (lj : Nat → Int64), wpX11_squaresFrom k 2 t li lj Q → wpX11_squaresFrom k' 2 t li lj Q') := by
  intro k
  induction k with
  | zero => intro k' _; exact ⟨fun _ _ _ hR => False.elim hR, fun _ _ _ hR => False.elim hR, fun _ _ _ hR => False.elim hR⟩
  | succ k ih =>
    intro k' hk
    cases k' with
    | zero => exact absurd hk (Nat.not_succ_le_zero k)
    | succ k' =>
      have hk := Nat.le_of_succ_le_succ hk
      have ihk := ih k' hk
      refine ⟨?_, ?_, ?_⟩
      · intro t li lj hR
        have hR : wbX11_squaresFrom_0 (wpX11_squaresFrom k) k t li lj Q := hR
        show wbX11_squaresFrom_0 (wpX11_squaresFrom k') k' t li lj Q'
        unfold wbX11_squaresFrom_0 at hR ⊢
        exact ⟨hR.1, fun x5 e5 => ⟨fun c1 => wmX6_unpaired hk (fun y6_0 y6_1 h6 => fun x7 e7 => ⟨(h6 x7 e7).1, fun x8 e8 => fun x9 e9 => wmX6_unpaired hk (fun y10_0 y10_1 h10 => fun x11 e11 => ⟨(h10 x11 e11).1, fun x12 e12 => fun x13 e13 => wmX1_start hk (fun y14_0 h14 => wmX1_pour hk (fun y15_0 h15 => wmX1_holdOnly hk (fun y16_0 h16 => fun x17 e17 => wmX1_pour hk (fun y18_0 h18 => ihk.2.1 _ _ _ h18) (h16 x17 e17)) h15) h14) (((h10 x11 e11).2 x12 e12) x13 e13)⟩) (((h6 x7 e7).2 x8 e8) x9 e9)⟩) ((hR.2 x5 e5).1 c1), fun c1 => hQ _ _ ((hR.2 x5 e5).2 c1)⟩⟩
      · intro t li lj hR
        have hR : wbX11_squaresFrom_1 (wpX11_squaresFrom k) k t li lj Q := hR
        show wbX11_squaresFrom_1 (wpX11_squaresFrom k') k' t li lj Q'
        unfold wbX11_squaresFrom_1 at hR ⊢
        exact ⟨fun c4 => hQ _ _ (hR.1 c4), fun c4 => wmX11_isIn hk (fun y19_0 h19 => ⟨fun c3 => ihk.2.2 _ _ _ (h19.1 c3), fun c3 => ⟨(h19.2 c3).1, fun x20 e20 => fun x21 e21 => ⟨fun c2 => ihk.2.2 _ _ _ ((((h19.2 c3).2 x20 e20) x21 e21).1 c2), fun c2 => fun x22 e22 => ihk.2.2 _ _ _ (((((h19.2 c3).2 x20 e20) x21 e21).2 c2) x22 e22)⟩⟩⟩) (hR.2 c4)⟩
      · intro t li lj hR
        have hR : wbX11_squaresFrom_2 (wpX11_squaresFrom k) k t li lj Q := hR
        show wbX11_squaresFrom_2 (wpX11_squaresFrom k') k' t li lj Q'
        unfold wbX11_squaresFrom_2 at hR ⊢
        exact fun x23 e23 => ihk.2.1 _ _ _ (hR x23 e23)
theorem wmX11_squaresFrom {k k' : Nat} {t : XT} {a1 : Int32} {Q Q' : Int32 → XT → Prop} (hk : k ≤ k') (hQ : (∀ (r : Int32) (t : XT), Q r t → Q' r t)) (hR : wqX11_squaresFrom k t a1 Q) : wqX11_squaresFrom k' t a1 Q' := (wnX11_squaresFrom Q Q' hQ k k' hk).1 _ _ _ hR
set_option maxHeartbeats 4000000 in
set_option maxRecDepth 100000 in
theorem wnX11_squares (Q Q' : Int32 → XT → Prop) (hQ : (∀ (r : Int32) (t : XT), Q r t → Q' r t)) : ∀ k k' : Nat, k ≤ k' → (∀ (t : XT) (li : Nat → Int32) (lj : Nat → Int64), wpX11_squares k 0 t li lj Q → wpX11_squares k' 0 t li lj Q') ∧ (∀ (t : XT) (li : Nat → Int32) (lj : Nat → Int64), wpX11_squares k 1 t li lj Q → wpX11_squares k' 1 t li lj Q') ∧ (∀ (t : XT) (li : Nat → Int32) (lj : Nat → Int64), wpX11_squares k 2 t li lj Q → wpX11_squares k' 2 t li lj Q') := by
  intro k
  induction k with
  | zero => intro k' _; exact ⟨fun _ _ _ hR => False.elim hR, fun _ _ _ hR => False.elim hR, fun _ _ _ hR => False.elim hR⟩
  | succ k ih =>
    intro k' hk
    cases k' with
    | zero => exact absurd hk (Nat.not_succ_le_zero k)
    | succ k' =>
      have hk := Nat.le_of_succ_le_succ hk
      have ihk := ih k' hk
      refine ⟨?_, ?_, ?_⟩
      · intro t li lj hR
        have hR : wbX11_squares_0 (wpX11_squares k) k t li lj Q := hR
        show wbX11_squares_0 (wpX11_squares k') k' t li lj Q'
        unfold wbX11_squares_0 at hR ⊢
        exact wmX6_unpaired hk (fun y4_0 y4_1 h4 => ihk.2.1 _ _ _ h4) hR
      · intro t li lj hR
        have hR : wbX11_squares_1 (wpX11_squares k) k t li lj Q := hR
        show wbX11_squares_1 (wpX11_squares k') k' t li lj Q'
        unfold wbX11_squares_1 at hR ⊢
        exact ⟨fun c3 => hQ _ _ (hR.1 c3), fun c3 => wmX11_isIn hk (fun y5_0 h5 => ⟨fun c2 => ihk.2.2 _ _ _ (h5.1 c2), fun c2 => ⟨(h5.2 c2).1, fun x6 e6 => ⟨fun c1 => ihk.2.2 _ _ _ (((h5.2 c2).2 x6 e6).1 c1), fun c1 => wmX11_squaresFrom hk (fun y7_0 y7_1 h7 => fun x8 e8 => ihk.2.2 _ _ _ (h7 x8 e8)) (((h5.2 c2).2 x6 e6).2 c1)⟩⟩⟩) (hR.2 c3)⟩
      · intro t li lj hR
        have hR : wbX11_squares_2 (wpX11_squares k) k t li lj Q := hR
        show wbX11_squares_2 (wpX11_squares k') k' t li lj Q'
        unfold wbX11_squares_2 at hR ⊢
        exact fun x9 e9 => ihk.2.1 _ _ _ (hR x9 e9)
theorem wmX11_squares {k k' : Nat} {t : XT}  {Q Q' : Int32 → XT → Prop} (hk : k ≤ k') (hQ : (∀ (r : Int32) (t : XT), Q r t → Q' r t)) (hR : wqX11_squares k t  Q) : wqX11_squares k' t  Q' := (wnX11_squares Q Q' hQ k k' hk).1 _ _ _ hR
set_option maxHeartbeats 4000000 in
set_option maxRecDepth 100000 in
theorem wnX11_basis (Q Q' : Int64 → XT → Prop) (hQ : (∀ (r : Int64) (t : XT), Q r t → Q' r t)) : ∀ k k' : Nat, k ≤ k' → (∀ (t : XT) (li : Nat → Int32) (lj : Nat → Int64), wpX11_basis k 0 t li lj Q → wpX11_basis k' 0 t li lj Q') := by
  intro k
  induction k with
  | zero => intro k' _; exact fun _ _ _ hR => False.elim hR
  | succ k ih =>
    intro k' hk
    cases k' with
    | zero => exact absurd hk (Nat.not_succ_le_zero k)
    | succ k' =>
      have hk := Nat.le_of_succ_le_succ hk
      have ihk := ih k' hk
      intro t li lj hR
      have hR : wbX11_basis_0 (wpX11_basis k) k t li lj Q := hR
      show wbX11_basis_0 (wpX11_basis k') k' t li lj Q'
      unfold wbX11_basis_0 at hR ⊢
      exact ⟨fun c1 => hQ _ _ (hR.1 c1), fun c1 => wmX6_unpaired hk (fun y2_0 y2_1 h2 => hQ _ _ h2) (hR.2 c1)⟩
theorem wmX11_basis {k k' : Nat} {t : XT} {a1 : Int32} {Q Q' : Int64 → XT → Prop} (hk : k ≤ k') (hQ : (∀ (r : Int64) (t : XT), Q r t → Q' r t)) (hR : wqX11_basis k t a1 Q) : wqX11_basis k' t a1 Q' := (wnX11_basis Q Q' hQ k k' hk) _ _ _ hR
set_option maxHeartbeats 4000000 in
set_option maxRecDepth 100000 in
theorem wnX5_resize (Q Q' : XT → Prop) (hQ : (∀ (t : XT), Q t → Q' t)) : ∀ k k' : Nat, k ≤ k' → (∀ (t : XT) (li : Nat → Int32) (lj : Nat → Int64), wpX5_resize k 0 t li lj Q → wpX5_resize k' 0 t li lj Q') ∧ (∀ (t : XT) (li : Nat → Int32) (lj : Nat → Int64), wpX5_resize k 1 t li lj Q → wpX5_resize k' 1 t li lj Q') ∧ (∀ (t : XT) (li : Nat → Int32) (lj : Nat → Int64), wpX5_resize k 2 t li lj Q → wpX5_resize k' 2 t li lj Q') ∧ (∀ (t : XT) (li : Nat → Int32) (lj : Nat → Int64), wpX5_resize k 3 t li lj Q → wpX5_resize k' 3 t li lj Q') ∧ (∀ (t : XT) (li : Nat → Int32) (lj : Nat → Int64), wpX5_resize k 4 t li lj Q → wpX5_resize k' 4 t li lj Q') := by
  intro k
  induction k with
  | zero => intro k' _; exact ⟨fun _ _ _ hR => False.elim hR, fun _ _ _ hR => False.elim hR, fun _ _ _ hR => False.elim hR, fun _ _ _ hR => False.elim hR, fun _ _ _ hR => False.elim hR⟩
  | succ k ih =>
    intro k' hk
    cases k' with
    | zero => exact absurd hk (Nat.not_succ_le_zero k)
    | succ k' =>
      have hk := Nat.le_of_succ_le_succ hk
      have ihk := ih k' hk
      refine ⟨?_, ?_, ?_, ?_, ?_⟩
      · intro t li lj hR
        have hR : wbX5_resize_0 (wpX5_resize k) k t li lj Q := hR
        show wbX5_resize_0 (wpX5_resize k') k' t li lj Q'
        unfold wbX5_resize_0 at hR ⊢
        exact ⟨fun c5 => ihk.2.1 _ _ _ (hR.1 c5), fun c5 => ⟨fun c4 => ihk.2.1 _ _ _ ((hR.2 c5).1 c4), fun c4 => ⟨fun c3 => ihk.2.1 _ _ _ (((hR.2 c5).2 c4).1 c3), fun c3 => ⟨fun c2 => ihk.2.1 _ _ _ ((((hR.2 c5).2 c4).2 c3).1 c2), fun c2 => fun x8 e8 => ⟨fun c1 => ihk.2.1 _ _ _ ((((((hR.2 c5).2 c4).2 c3).2 c2) x8 e8).1 c1), fun c1 => ihk.2.2.1 _ _ _ ((((((hR.2 c5).2 c4).2 c3).2 c2) x8 e8).2 c1)⟩⟩⟩⟩⟩
      · intro t li lj hR
        have hR : wbX5_resize_1 (wpX5_resize k) k t li lj Q := hR
        show wbX5_resize_1 (wpX5_resize k') k' t li lj Q'
        unfold wbX5_resize_1 at hR ⊢
        exact ihk.2.2.1 _ _ _ hR
      · intro t li lj hR
        have hR : wbX5_resize_2 (wpX5_resize k) k t li lj Q := hR
        show wbX5_resize_2 (wpX5_resize k') k' t li lj Q'
        unfold wbX5_resize_2 at hR ⊢
        exact ⟨fun c6 => ihk.2.2.2.1 _ _ _ (hR.1 c6), fun c6 => ihk.2.2.2.1 _ _ _ (hR.2 c6)⟩
      · intro t li lj hR
        have hR : wbX5_resize_3 (wpX5_resize k) k t li lj Q := hR
        show wbX5_resize_3 (wpX5_resize k') k' t li lj Q'
        unfold wbX5_resize_3 at hR ⊢
        exact fun x9 e9 => ⟨fun c7 => ihk.2.2.2.2 _ _ _ ((hR x9 e9).1 c7), fun c7 => ihk.2.2.2.2 _ _ _ ((hR x9 e9).2 c7)⟩
      · intro t li lj hR
        have hR : wbX5_resize_4 (wpX5_resize k) k t li lj Q := hR
        show wbX5_resize_4 (wpX5_resize k') k' t li lj Q'
        unfold wbX5_resize_4 at hR ⊢
        exact fun x10 e10 => hQ _ (hR x10 e10)
theorem wmX5_resize {k k' : Nat} {t : XT} {a1 : Int32} {a2 : Int32} {Q Q' : XT → Prop} (hk : k ≤ k') (hQ : (∀ (t : XT), Q t → Q' t)) (hR : wqX5_resize k t a1 a2 Q) : wqX5_resize k' t a1 a2 Q' := (wnX5_resize Q Q' hQ k k' hk).1 _ _ _ hR
set_option maxHeartbeats 4000000 in
set_option maxRecDepth 100000 in
theorem wnX5_put (Q Q' : XT → Prop) (hQ : (∀ (t : XT), Q t → Q' t)) : ∀ k k' : Nat, k ≤ k' → (∀ (t : XT) (li : Nat → Int32) (lj : Nat → Int64), wpX5_put k 0 t li lj Q → wpX5_put k' 0 t li lj Q') := by
  intro k
  induction k with
  | zero => intro k' _; exact fun _ _ _ hR => False.elim hR
  | succ k ih =>
    intro k' hk
    cases k' with
    | zero => exact absurd hk (Nat.not_succ_le_zero k)
    | succ k' =>
      have hk := Nat.le_of_succ_le_succ hk
      have ihk := ih k' hk
      intro t li lj hR
      have hR : wbX5_put_0 (wpX5_put k) k t li lj Q := hR
      show wbX5_put_0 (wpX5_put k') k' t li lj Q'
      unfold wbX5_put_0 at hR ⊢
      exact ⟨fun c4 => hQ _ (hR.1 c4), fun c4 => ⟨fun c3 => hQ _ ((hR.2 c4).1 c3), fun c3 => ⟨fun c2 => hQ _ (((hR.2 c4).2 c3).1 c2), fun c2 => ⟨fun c1 => hQ _ ((((hR.2 c4).2 c3).2 c2).1 c1), fun c1 => fun x5 e5 => fun x6 e6 => ⟨((((((hR.2 c4).2 c3).2 c2).2 c1) x5 e5) x6 e6).1, fun x7 e7 => hQ _ (((((((hR.2 c4).2 c3).2 c2).2 c1) x5 e5) x6 e6).2 x7 e7)⟩⟩⟩⟩⟩
theorem wmX5_put {k k' : Nat} {t : XT} {a1 : Int32} {a2 : Int32} {a3 : Int64} {Q Q' : XT → Prop} (hk : k ≤ k') (hQ : (∀ (t : XT), Q t → Q' t)) (hR : wqX5_put k t a1 a2 a3 Q) : wqX5_put k' t a1 a2 a3 Q' := (wnX5_put Q Q' hQ k k' hk) _ _ _ hR
set_option maxHeartbeats 4000000 in
set_option maxRecDepth 100000 in
theorem wnX0_fillRow (Q Q' : XT → Prop) (hQ : (∀ (t : XT), Q t → Q' t)) : ∀ k k' : Nat, k ≤ k' → (∀ (t : XT) (li : Nat → Int32) (lj : Nat → Int64), wpX0_fillRow k 0 t li lj Q → wpX0_fillRow k' 0 t li lj Q') ∧ (∀ (t : XT) (li : Nat → Int32) (lj : Nat → Int64), wpX0_fillRow k 1 t li lj Q → wpX0_fillRow k' 1 t li lj Q') ∧ (∀ (t : XT) (li : Nat → Int32) (lj : Nat → Int64), wpX0_fillRow k 2 t li lj Q → wpX0_fillRow k' 2 t li lj Q') ∧ (∀ (t : XT) (li : Nat → Int32) (lj : Nat → Int64), wpX0_fillRow k 3 t li lj Q → wpX0_fillRow k' 3 t li lj Q') := by
  intro k
  induction k with
  | zero => intro k' _; exact ⟨fun _ _ _ hR => False.elim hR, fun _ _ _ hR => False.elim hR, fun _ _ _ hR => False.elim hR, fun _ _ _ hR => False.elim hR⟩
  | succ k ih =>
    intro k' hk
    cases k' with
    | zero => exact absurd hk (Nat.not_succ_le_zero k)
    | succ k' =>
      have hk := Nat.le_of_succ_le_succ hk
      have ihk := ih k' hk
      refine ⟨?_, ?_, ?_, ?_⟩
      · intro t li lj hR
        have hR : wbX0_fillRow_0 (wpX0_fillRow k) k t li lj Q := hR
        show wbX0_fillRow_0 (wpX0_fillRow k') k' t li lj Q'
        unfold wbX0_fillRow_0 at hR ⊢
        exact ihk.2.1 _ _ _ hR
      · intro t li lj hR
        have hR : wbX0_fillRow_1 (wpX0_fillRow k) k t li lj Q := hR
        show wbX0_fillRow_1 (wpX0_fillRow k') k' t li lj Q'
        unfold wbX0_fillRow_1 at hR ⊢
        exact ⟨fun c3 => hQ _ (hR.1 c3), fun c3 => wmX11_isIn hk (fun y4_0 h4 => ⟨fun c2 => ihk.2.2.2 _ _ _ (h4.1 c2), fun c2 => ⟨fun c1 => wmX9_signOf hk (fun y5_0 y5_1 h5 => fun x6 e6 => ihk.2.2.1 _ _ _ (h5 x6 e6)) ((h4.2 c2).1 c1), fun c1 => ⟨((h4.2 c2).2 c1).1, fun x7 e7 => ihk.2.2.1 _ _ _ (((h4.2 c2).2 c1).2 x7 e7)⟩⟩⟩) (hR.2 c3)⟩
      · intro t li lj hR
        have hR : wbX0_fillRow_2 (wpX0_fillRow k) k t li lj Q := hR
        show wbX0_fillRow_2 (wpX0_fillRow k') k' t li lj Q'
        unfold wbX0_fillRow_2 at hR ⊢
        exact wmX5_put hk (fun y8_0 h8 => fun x9 e9 => ihk.2.2.2 _ _ _ (h8 x9 e9)) hR
      · intro t li lj hR
        have hR : wbX0_fillRow_3 (wpX0_fillRow k) k t li lj Q := hR
        show wbX0_fillRow_3 (wpX0_fillRow k') k' t li lj Q'
        unfold wbX0_fillRow_3 at hR ⊢
        exact fun x10 e10 => ihk.2.1 _ _ _ (hR x10 e10)
theorem wmX0_fillRow {k k' : Nat} {t : XT} {a1 : Int32} {a2 : Int32} {a3 : Int64} {a4 : Int32} {Q Q' : XT → Prop} (hk : k ≤ k') (hQ : (∀ (t : XT), Q t → Q' t)) (hR : wqX0_fillRow k t a1 a2 a3 a4 Q) : wqX0_fillRow k' t a1 a2 a3 a4 Q' := (wnX0_fillRow Q Q' hQ k k' hk).1 _ _ _ hR
set_option maxHeartbeats 4000000 in
set_option maxRecDepth 100000 in
theorem wnX0_fill (Q Q' : XT → Prop) (hQ : (∀ (t : XT), Q t → Q' t)) : ∀ k k' : Nat, k ≤ k' → (∀ (t : XT) (li : Nat → Int32) (lj : Nat → Int64), wpX0_fill k 0 t li lj Q → wpX0_fill k' 0 t li lj Q') ∧ (∀ (t : XT) (li : Nat → Int32) (lj : Nat → Int64), wpX0_fill k 1 t li lj Q → wpX0_fill k' 1 t li lj Q') ∧ (∀ (t : XT) (li : Nat → Int32) (lj : Nat → Int64), wpX0_fill k 2 t li lj Q → wpX0_fill k' 2 t li lj Q') ∧ (∀ (t : XT) (li : Nat → Int32) (lj : Nat → Int64), wpX0_fill k 3 t li lj Q → wpX0_fill k' 3 t li lj Q') := by
  intro k
  induction k with
  | zero => intro k' _; exact ⟨fun _ _ _ hR => False.elim hR, fun _ _ _ hR => False.elim hR, fun _ _ _ hR => False.elim hR, fun _ _ _ hR => False.elim hR⟩
  | succ k ih =>
    intro k' hk
    cases k' with
    | zero => exact absurd hk (Nat.not_succ_le_zero k)
    | succ k' =>
      have hk := Nat.le_of_succ_le_succ hk
      have ihk := ih k' hk
      refine ⟨?_, ?_, ?_, ?_⟩
      · intro t li lj hR
        have hR : wbX0_fill_0 (wpX0_fill k) k t li lj Q := hR
        show wbX0_fill_0 (wpX0_fill k') k' t li lj Q'
        unfold wbX0_fill_0 at hR ⊢
        exact wmJ13_bitCount_95d88 hk (fun y4_0 h4 => wmJ13_bitCount_95d88 hk (fun y5_0 h5 => wmX5_resize hk (fun y6_0 h6 => ihk.2.1 _ _ _ h6) h5) h4) hR
      · intro t li lj hR
        have hR : wbX0_fill_1 (wpX0_fill k) k t li lj Q := hR
        show wbX0_fill_1 (wpX0_fill k') k' t li lj Q'
        unfold wbX0_fill_1 at hR ⊢
        exact ⟨fun c3 => hQ _ (hR.1 c3), fun c3 => wmX11_isIn hk (fun y7_0 h7 => ⟨fun c2 => ihk.2.2.2 _ _ _ (h7.1 c2), fun c2 => ⟨fun c1 => ihk.2.2.1 _ _ _ ((h7.2 c2).1 c1), fun c1 => wmX1_start hk (fun y8_0 h8 => ⟨h8.1, fun x9 e9 => wmX1_pour hk (fun y10_0 h10 => ihk.2.2.1 _ _ _ h10) (h8.2 x9 e9)⟩) ((h7.2 c2).2 c1)⟩⟩) (hR.2 c3)⟩
      · intro t li lj hR
        have hR : wbX0_fill_2 (wpX0_fill k) k t li lj Q := hR
        show wbX0_fill_2 (wpX0_fill k') k' t li lj Q'
        unfold wbX0_fill_2 at hR ⊢
        exact wmX0_fillRow hk (fun y11_0 h11 => fun x12 e12 => ihk.2.2.2 _ _ _ (h11 x12 e12)) hR
      · intro t li lj hR
        have hR : wbX0_fill_3 (wpX0_fill k) k t li lj Q := hR
        show wbX0_fill_3 (wpX0_fill k') k' t li lj Q'
        unfold wbX0_fill_3 at hR ⊢
        exact fun x13 e13 => ihk.2.1 _ _ _ (hR x13 e13)
theorem wmX0_fill {k k' : Nat} {t : XT} {a1 : Int64} {a2 : Int64} {a3 : Int32} {Q Q' : XT → Prop} (hk : k ≤ k') (hQ : (∀ (t : XT), Q t → Q' t)) (hR : wqX0_fill k t a1 a2 a3 Q) : wqX0_fill k' t a1 a2 a3 Q' := (wnX0_fill Q Q' hQ k k' hk).1 _ _ _ hR
set_option maxHeartbeats 4000000 in
set_option maxRecDepth 100000 in
theorem wnX5_firstRow (Q Q' : Int32 → XT → Prop) (hQ : (∀ (r : Int32) (t : XT), Q r t → Q' r t)) : ∀ k k' : Nat, k ≤ k' → (∀ (t : XT) (li : Nat → Int32) (lj : Nat → Int64), wpX5_firstRow k 0 t li lj Q → wpX5_firstRow k' 0 t li lj Q') ∧ (∀ (t : XT) (li : Nat → Int32) (lj : Nat → Int64), wpX5_firstRow k 1 t li lj Q → wpX5_firstRow k' 1 t li lj Q') := by
  intro k
  induction k with
  | zero => intro k' _; exact ⟨fun _ _ _ hR => False.elim hR, fun _ _ _ hR => False.elim hR⟩
  | succ k ih =>
    intro k' hk
    cases k' with
    | zero => exact absurd hk (Nat.not_succ_le_zero k)
    | succ k' =>
      have hk := Nat.le_of_succ_le_succ hk
      have ihk := ih k' hk
      refine ⟨?_, ?_⟩
      · intro t li lj hR
        have hR : wbX5_firstRow_0 (wpX5_firstRow k) k t li lj Q := hR
        show wbX5_firstRow_0 (wpX5_firstRow k') k' t li lj Q'
        unfold wbX5_firstRow_0 at hR ⊢
        exact ihk.2 _ _ _ hR
      · intro t li lj hR
        have hR : wbX5_firstRow_1 (wpX5_firstRow k) k t li lj Q := hR
        show wbX5_firstRow_1 (wpX5_firstRow k') k' t li lj Q'
        unfold wbX5_firstRow_1 at hR ⊢
        exact ⟨fun c2 => hQ _ _ (hR.1 c2), fun c2 => fun x3 e3 => fun x4 e4 => ⟨(((hR.2 c2) x3 e3) x4 e4).1, fun x5 e5 => fun x6 e6 => ⟨fun c1 => fun x7 e7 => ihk.2 _ _ _ (((((((hR.2 c2) x3 e3) x4 e4).2 x5 e5) x6 e6).1 c1) x7 e7), fun c1 => hQ _ _ ((((((hR.2 c2) x3 e3) x4 e4).2 x5 e5) x6 e6).2 c1)⟩⟩⟩
theorem wmX5_firstRow {k k' : Nat} {t : XT} {a1 : Int32} {a2 : Int32} {Q Q' : Int32 → XT → Prop} (hk : k ≤ k') (hQ : (∀ (r : Int32) (t : XT), Q r t → Q' r t)) (hR : wqX5_firstRow k t a1 a2 Q) : wqX5_firstRow k' t a1 a2 Q' := (wnX5_firstRow Q Q' hQ k k' hk).1 _ _ _ hR
set_option maxHeartbeats 4000000 in
set_option maxRecDepth 100000 in
theorem wnX5_swapRows_c31 (Q Q' : XT → Prop) (hQ : (∀ (t : XT), Q t → Q' t)) : ∀ k k' : Nat, k ≤ k' → (∀ (t : XT) (li : Nat → Int32) (lj : Nat → Int64), wpX5_swapRows_c31 k 0 t li lj Q → wpX5_swapRows_c31 k' 0 t li lj Q') ∧ (∀ (t : XT) (li : Nat → Int32) (lj : Nat → Int64), wpX5_swapRows_c31 k 1 t li lj Q → wpX5_swapRows_c31 k' 1 t li lj Q') := by
  intro k
  induction k with
  | zero => intro k' _; exact ⟨fun _ _ _ hR => False.elim hR, fun _ _ _ hR => False.elim hR⟩
  | succ k ih =>
    intro k' hk
    cases k' with
    | zero => exact absurd hk (Nat.not_succ_le_zero k)
    | succ k' =>
      have hk := Nat.le_of_succ_le_succ hk
      have ihk := ih k' hk
      refine ⟨?_, ?_⟩
      · intro t li lj hR
        have hR : wbX5_swapRows_c31_0 (wpX5_swapRows_c31 k) k t li lj Q := hR
        show wbX5_swapRows_c31_0 (wpX5_swapRows_c31 k') k' t li lj Q'
        unfold wbX5_swapRows_c31_0 at hR ⊢
        exact ihk.2 _ _ _ hR
      · intro t li lj hR
        have hR : wbX5_swapRows_c31_1 (wpX5_swapRows_c31 k) k t li lj Q := hR
        show wbX5_swapRows_c31_1 (wpX5_swapRows_c31 k') k' t li lj Q'
        unfold wbX5_swapRows_c31_1 at hR ⊢
        exact ⟨fun c2 => hQ _ (hR.1 c2), fun c2 => ⟨fun c1 => hQ _ ((hR.2 c2).1 c1), fun c1 => fun x3 e3 => fun x4 e4 => ⟨((((hR.2 c2).2 c1) x3 e3) x4 e4).1, fun x5 e5 => fun x6 e6 => fun x7 e7 => fun x8 e8 => fun x9 e9 => ⟨(((((((((hR.2 c2).2 c1) x3 e3) x4 e4).2 x5 e5) x6 e6) x7 e7) x8 e8) x9 e9).1, fun x10 e10 => ⟨((((((((((hR.2 c2).2 c1) x3 e3) x4 e4).2 x5 e5) x6 e6) x7 e7) x8 e8) x9 e9).2 x10 e10).1, fun x11 e11 => fun x12 e12 => fun x13 e13 => ⟨(((((((((((((hR.2 c2).2 c1) x3 e3) x4 e4).2 x5 e5) x6 e6) x7 e7) x8 e8) x9 e9).2 x10 e10).2 x11 e11) x12 e12) x13 e13).1, fun x14 e14 => fun x15 e15 => ihk.2 _ _ _ (((((((((((((((hR.2 c2).2 c1) x3 e3) x4 e4).2 x5 e5) x6 e6) x7 e7) x8 e8) x9 e9).2 x10 e10).2 x11 e11) x12 e12) x13 e13).2 x14 e14) x15 e15)⟩⟩⟩⟩⟩⟩
theorem wmX5_swapRows_c31 {k k' : Nat} {t : XT} {a2 : Int32} {a3 : Int32} {Q Q' : XT → Prop} (hk : k ≤ k') (hQ : (∀ (t : XT), Q t → Q' t)) (hR : wqX5_swapRows_c31 k t a2 a3 Q) : wqX5_swapRows_c31 k' t a2 a3 Q' := (wnX5_swapRows_c31 Q Q' hQ k k' hk).1 _ _ _ hR
set_option maxHeartbeats 4000000 in
set_option maxRecDepth 100000 in
theorem wnX5_makePositive (Q Q' : XT → Prop) (hQ : (∀ (t : XT), Q t → Q' t)) : ∀ k k' : Nat, k ≤ k' → (∀ (t : XT) (li : Nat → Int32) (lj : Nat → Int64), wpX5_makePositive k 0 t li lj Q → wpX5_makePositive k' 0 t li lj Q') ∧ (∀ (t : XT) (li : Nat → Int32) (lj : Nat → Int64), wpX5_makePositive k 1 t li lj Q → wpX5_makePositive k' 1 t li lj Q') := by
  intro k
  induction k with
  | zero => intro k' _; exact ⟨fun _ _ _ hR => False.elim hR, fun _ _ _ hR => False.elim hR⟩
  | succ k ih =>
    intro k' hk
    cases k' with
    | zero => exact absurd hk (Nat.not_succ_le_zero k)
    | succ k' =>
      have hk := Nat.le_of_succ_le_succ hk
      have ihk := ih k' hk
      refine ⟨?_, ?_⟩
      · intro t li lj hR
        have hR : wbX5_makePositive_0 (wpX5_makePositive k) k t li lj Q := hR
        show wbX5_makePositive_0 (wpX5_makePositive k') k' t li lj Q'
        unfold wbX5_makePositive_0 at hR ⊢
        exact fun x3 e3 => fun x4 e4 => ⟨((hR x3 e3) x4 e4).1, fun x5 e5 => fun x6 e6 => ⟨fun c1 => ihk.2 _ _ _ (((((hR x3 e3) x4 e4).2 x5 e5) x6 e6).1 c1), fun c1 => hQ _ (((((hR x3 e3) x4 e4).2 x5 e5) x6 e6).2 c1)⟩⟩
      · intro t li lj hR
        have hR : wbX5_makePositive_1 (wpX5_makePositive k) k t li lj Q := hR
        show wbX5_makePositive_1 (wpX5_makePositive k') k' t li lj Q'
        unfold wbX5_makePositive_1 at hR ⊢
        exact ⟨fun c2 => hQ _ (hR.1 c2), fun c2 => fun x7 e7 => fun x8 e8 => fun x9 e9 => fun x10 e10 => ⟨(((((hR.2 c2) x7 e7) x8 e8) x9 e9) x10 e10).1, fun x11 e11 => fun x12 e12 => ⟨(((((((hR.2 c2) x7 e7) x8 e8) x9 e9) x10 e10).2 x11 e11) x12 e12).1, fun x13 e13 => fun x14 e14 => ihk.2 _ _ _ (((((((((hR.2 c2) x7 e7) x8 e8) x9 e9) x10 e10).2 x11 e11) x12 e12).2 x13 e13) x14 e14)⟩⟩⟩
theorem wmX5_makePositive {k k' : Nat} {t : XT} {a1 : Int32} {a2 : Int32} {Q Q' : XT → Prop} (hk : k ≤ k') (hQ : (∀ (t : XT), Q t → Q' t)) (hR : wqX5_makePositive k t a1 a2 Q) : wqX5_makePositive k' t a1 a2 Q' := (wnX5_makePositive Q Q' hQ k k' hk).1 _ _ _ hR
set_option maxHeartbeats 4000000 in
set_option maxRecDepth 100000 in
theorem wnX5_clearBelow (Q Q' : XT → Prop) (hQ : (∀ (t : XT), Q t → Q' t)) : ∀ k k' : Nat, k ≤ k' → (∀ (t : XT) (li : Nat → Int32) (lj : Nat → Int64), wpX5_clearBelow k 0 t li lj Q → wpX5_clearBelow k' 0 t li lj Q') ∧ (∀ (t : XT) (li : Nat → Int32) (lj : Nat → Int64), wpX5_clearBelow k 1 t li lj Q → wpX5_clearBelow k' 1 t li lj Q') ∧ (∀ (t : XT) (li : Nat → Int32) (lj : Nat → Int64), wpX5_clearBelow k 2 t li lj Q → wpX5_clearBelow k' 2 t li lj Q') ∧ (∀ (t : XT) (li : Nat → Int32) (lj : Nat → Int64), wpX5_clearBelow k 3 t li lj Q → wpX5_clearBelow k' 3 t li lj Q') ∧ (∀ (t : XT) (li : Nat → Int32) (lj : Nat → Int64), wpX5_clearBelow k 4 t li lj Q → wpX5_clearBelow k' 4 t li lj Q') ∧ (∀ (t : XT) (li : Nat → Int32) (lj : Nat → Int64), wpX5_clearBelow k 5 t li lj Q → wpX5_clearBelow k' 5 t li lj Q') := by
  intro k
  induction k with
  | zero => intro k' _; exact ⟨fun _ _ _ hR => False.elim hR, fun _ _ _ hR => False.elim hR, fun _ _ _ hR => False.elim hR, fun _ _ _ hR => False.elim hR, fun _ _ _ hR => False.elim hR, fun _ _ _ hR => False.elim hR⟩
  | succ k ih =>
    intro k' hk
    cases k' with
    | zero => exact absurd hk (Nat.not_succ_le_zero k)
    | succ k' =>
      have hk := Nat.le_of_succ_le_succ hk
      have ihk := ih k' hk
      refine ⟨?_, ?_, ?_, ?_, ?_, ?_⟩
      · intro t li lj hR
        have hR : wbX5_clearBelow_0 (wpX5_clearBelow k) k t li lj Q := hR
        show wbX5_clearBelow_0 (wpX5_clearBelow k') k' t li lj Q'
        unfold wbX5_clearBelow_0 at hR ⊢
        exact fun x7 e7 => fun x8 e8 => ⟨((hR x7 e7) x8 e8).1, fun x9 e9 => fun x10 e10 => ⟨fun c1 => fun x11 e11 => ihk.2.1 _ _ _ ((((((hR x7 e7) x8 e8).2 x9 e9) x10 e10).1 c1) x11 e11), fun c1 => hQ _ (((((hR x7 e7) x8 e8).2 x9 e9) x10 e10).2 c1)⟩⟩
      · intro t li lj hR
        have hR : wbX5_clearBelow_1 (wpX5_clearBelow k) k t li lj Q := hR
        show wbX5_clearBelow_1 (wpX5_clearBelow k') k' t li lj Q'
        unfold wbX5_clearBelow_1 at hR ⊢
        exact ⟨fun c4 => hQ _ (hR.1 c4), fun c4 => fun x12 e12 => fun x13 e13 => ⟨(((hR.2 c4) x12 e12) x13 e13).1, fun x14 e14 => fun x15 e15 => ⟨fun c3 => ihk.2.2.1 _ _ _ ((((((hR.2 c4) x12 e12) x13 e13).2 x14 e14) x15 e15).1 c3), fun c3 => fun x16 e16 => ⟨fun c2 => ihk.2.2.2.1 _ _ _ ((((((((hR.2 c4) x12 e12) x13 e13).2 x14 e14) x15 e15).2 c3) x16 e16).1 c2), fun c2 => ihk.2.2.1 _ _ _ ((((((((hR.2 c4) x12 e12) x13 e13).2 x14 e14) x15 e15).2 c3) x16 e16).2 c2)⟩⟩⟩⟩
      · intro t li lj hR
        have hR : wbX5_clearBelow_2 (wpX5_clearBelow k) k t li lj Q := hR
        show wbX5_clearBelow_2 (wpX5_clearBelow k') k' t li lj Q'
        unfold wbX5_clearBelow_2 at hR ⊢
        exact ihk.2.2.2.1 _ _ _ hR
      · intro t li lj hR
        have hR : wbX5_clearBelow_3 (wpX5_clearBelow k) k t li lj Q := hR
        show wbX5_clearBelow_3 (wpX5_clearBelow k') k' t li lj Q'
        unfold wbX5_clearBelow_3 at hR ⊢
        exact ihk.2.2.2.2.1 _ _ _ hR
      · intro t li lj hR
        have hR : wbX5_clearBelow_4 (wpX5_clearBelow k) k t li lj Q := hR
        show wbX5_clearBelow_4 (wpX5_clearBelow k') k' t li lj Q'
        unfold wbX5_clearBelow_4 at hR ⊢
        exact ⟨fun c6 => ihk.2.2.2.2.2 _ _ _ (hR.1 c6), fun c6 => ⟨fun c5 => ihk.2.2.2.2.2 _ _ _ ((hR.2 c6).1 c5), fun c5 => fun x17 e17 => fun x18 e18 => ⟨((((hR.2 c6).2 c5) x17 e17) x18 e18).1, fun x19 e19 => fun x20 e20 => fun x21 e21 => fun x22 e22 => ⟨((((((((hR.2 c6).2 c5) x17 e17) x18 e18).2 x19 e19) x20 e20) x21 e21) x22 e22).1, fun x23 e23 => fun x24 e24 => fun x25 e25 => ⟨(((((((((((hR.2 c6).2 c5) x17 e17) x18 e18).2 x19 e19) x20 e20) x21 e21) x22 e22).2 x23 e23) x24 e24) x25 e25).1, fun x26 e26 => ⟨((((((((((((hR.2 c6).2 c5) x17 e17) x18 e18).2 x19 e19) x20 e20) x21 e21) x22 e22).2 x23 e23) x24 e24) x25 e25).2 x26 e26).1, fun x27 e27 => fun x28 e28 => ihk.2.2.2.2.1 _ _ _ ((((((((((((((hR.2 c6).2 c5) x17 e17) x18 e18).2 x19 e19) x20 e20) x21 e21) x22 e22).2 x23 e23) x24 e24) x25 e25).2 x26 e26).2 x27 e27) x28 e28)⟩⟩⟩⟩⟩⟩
      · intro t li lj hR
        have hR : wbX5_clearBelow_5 (wpX5_clearBelow k) k t li lj Q := hR
        show wbX5_clearBelow_5 (wpX5_clearBelow k') k' t li lj Q'
        unfold wbX5_clearBelow_5 at hR ⊢
        exact fun x29 e29 => ihk.2.1 _ _ _ (hR x29 e29)
theorem wmX5_clearBelow {k k' : Nat} {t : XT} {a1 : Int32} {a2 : Int32} {a3 : Int64} {Q Q' : XT → Prop} (hk : k ≤ k') (hQ : (∀ (t : XT), Q t → Q' t)) (hR : wqX5_clearBelow k t a1 a2 a3 Q) : wqX5_clearBelow k' t a1 a2 a3 Q' := (wnX5_clearBelow Q Q' hQ k k' hk).1 _ _ _ hR
set_option maxHeartbeats 4000000 in
set_option maxRecDepth 100000 in
theorem wnX5_eliminate (Q Q' : Int32 → XT → Prop) (hQ : (∀ (r : Int32) (t : XT), Q r t → Q' r t)) : ∀ k k' : Nat, k ≤ k' → (∀ (t : XT) (li : Nat → Int32) (lj : Nat → Int64), wpX5_eliminate k 0 t li lj Q → wpX5_eliminate k' 0 t li lj Q') ∧ (∀ (t : XT) (li : Nat → Int32) (lj : Nat → Int64), wpX5_eliminate k 1 t li lj Q → wpX5_eliminate k' 1 t li lj Q') ∧ (∀ (t : XT) (li : Nat → Int32) (lj : Nat → Int64), wpX5_eliminate k 2 t li lj Q → wpX5_eliminate k' 2 t li lj Q') ∧ (∀ (t : XT) (li : Nat → Int32) (lj : Nat → Int64), wpX5_eliminate k 3 t li lj Q → wpX5_eliminate k' 3 t li lj Q') := by
  intro k
  induction k with
  | zero => intro k' _; exact ⟨fun _ _ _ hR => False.elim hR, fun _ _ _ hR => False.elim hR, fun _ _ _ hR => False.elim hR, fun _ _ _ hR => False.elim hR⟩
  | succ k ih =>
    intro k' hk
    cases k' with
    | zero => exact absurd hk (Nat.not_succ_le_zero k)
    | succ k' =>
      have hk := Nat.le_of_succ_le_succ hk
      have ihk := ih k' hk
      refine ⟨?_, ?_, ?_, ?_⟩
      · intro t li lj hR
        have hR : wbX5_eliminate_0 (wpX5_eliminate k) k t li lj Q := hR
        show wbX5_eliminate_0 (wpX5_eliminate k') k' t li lj Q'
        unfold wbX5_eliminate_0 at hR ⊢
        exact fun x4 e4 => ⟨(hR x4 e4).1, (hR x4 e4).2.1, (hR x4 e4).2.2.1, (hR x4 e4).2.2.2.1, (hR x4 e4).2.2.2.2.1, fun x5 e5 => ihk.2.1 _ _ _ ((hR x4 e4).2.2.2.2.2 x5 e5)⟩
      · intro t li lj hR
        have hR : wbX5_eliminate_1 (wpX5_eliminate k) k t li lj Q := hR
        show wbX5_eliminate_1 (wpX5_eliminate k') k' t li lj Q'
        unfold wbX5_eliminate_1 at hR ⊢
        exact ⟨fun c3 => ihk.2.2.2 _ _ _ (hR.1 c3), fun c3 => ⟨fun c2 => ihk.2.2.2 _ _ _ ((hR.2 c3).1 c2), fun c2 => wmX5_firstRow hk (fun y6_0 y6_1 h6 => ⟨fun c1 => ihk.2.2.1 _ _ _ (h6.1 c1), fun c1 => wmX5_swapRows_c31 hk (fun y7_0 h7 => wmX5_makePositive hk (fun y8_0 h8 => wmX5_clearBelow hk (fun y9_0 h9 => fun x10 e10 => fun x11 e11 => ⟨((h9 x10 e10) x11 e11).1, fun x12 e12 => fun x13 e13 => ihk.2.2.1 _ _ _ ((((h9 x10 e10) x11 e11).2 x12 e12) x13 e13)⟩) h8) h7) (h6.2 c1)⟩) ((hR.2 c3).2 c2)⟩⟩
      · intro t li lj hR
        have hR : wbX5_eliminate_2 (wpX5_eliminate k) k t li lj Q := hR
        show wbX5_eliminate_2 (wpX5_eliminate k') k' t li lj Q'
        unfold wbX5_eliminate_2 at hR ⊢
        exact fun x14 e14 => ihk.2.1 _ _ _ (hR x14 e14)
      · intro t li lj hR
        have hR : wbX5_eliminate_3 (wpX5_eliminate k) k t li lj Q := hR
        show wbX5_eliminate_3 (wpX5_eliminate k') k' t li lj Q'
        unfold wbX5_eliminate_3 at hR ⊢
        exact fun x15 e15 => hQ _ _ (hR x15 e15)
theorem wmX5_eliminate {k k' : Nat} {t : XT}  {Q Q' : Int32 → XT → Prop} (hk : k ≤ k') (hQ : (∀ (r : Int32) (t : XT), Q r t → Q' r t)) (hR : wqX5_eliminate k t  Q) : wqX5_eliminate k' t  Q' := (wnX5_eliminate Q Q' hQ k k' hk).1 _ _ _ hR
set_option maxHeartbeats 4000000 in
set_option maxRecDepth 100000 in
theorem wnX0_rankOf (Q Q' : Int32 → XT → Prop) (hQ : (∀ (r : Int32) (t : XT), Q r t → Q' r t)) : ∀ k k' : Nat, k ≤ k' → (∀ (t : XT) (li : Nat → Int32) (lj : Nat → Int64), wpX0_rankOf k 0 t li lj Q → wpX0_rankOf k' 0 t li lj Q') ∧ (∀ (t : XT) (li : Nat → Int32) (lj : Nat → Int64), wpX0_rankOf k 1 t li lj Q → wpX0_rankOf k' 1 t li lj Q') := by
  intro k
  induction k with
  | zero => intro k' _; exact ⟨fun _ _ _ hR => False.elim hR, fun _ _ _ hR => False.elim hR⟩
  | succ k ih =>
    intro k' hk
    cases k' with
    | zero => exact absurd hk (Nat.not_succ_le_zero k)
    | succ k' =>
      have hk := Nat.le_of_succ_le_succ hk
      have ihk := ih k' hk
      refine ⟨?_, ?_⟩
      · intro t li lj hR
        have hR : wbX0_rankOf_0 (wpX0_rankOf k) k t li lj Q := hR
        show wbX0_rankOf_0 (wpX0_rankOf k') k' t li lj Q'
        unfold wbX0_rankOf_0 at hR ⊢
        exact ⟨fun c2 => ihk.2 _ _ _ (hR.1 c2), fun c2 => ⟨fun c1 => ⟨((hR.2 c2).1 c1).1, fun x3 e3 => fun x4 e4 => fun x5 e5 => ⟨(((((hR.2 c2).1 c1).2 x3 e3) x4 e4) x5 e5).1, fun x6 e6 => fun x7 e7 => wmX0_fill hk (fun y8_0 h8 => wmX5_eliminate hk (fun y9_0 y9_1 h9 => hQ _ _ h9) h8) (((((((hR.2 c2).1 c1).2 x3 e3) x4 e4) x5 e5).2 x6 e6) x7 e7)⟩⟩, fun c1 => ihk.2 _ _ _ ((hR.2 c2).2 c1)⟩⟩
      · intro t li lj hR
        have hR : wbX0_rankOf_1 (wpX0_rankOf k) k t li lj Q := hR
        show wbX0_rankOf_1 (wpX0_rankOf k') k' t li lj Q'
        unfold wbX0_rankOf_1 at hR ⊢
        exact hQ _ _ hR
theorem wmX0_rankOf {k k' : Nat} {t : XT} {a1 : Int64} {a2 : Int32} {a3 : Int32} {Q Q' : Int32 → XT → Prop} (hk : k ≤ k') (hQ : (∀ (r : Int32) (t : XT), Q r t → Q' r t)) (hR : wqX0_rankOf k t a1 a2 a3 Q) : wqX0_rankOf k' t a1 a2 a3 Q' := (wnX0_rankOf Q Q' hQ k k' hk).1 _ _ _ hR
set_option maxHeartbeats 4000000 in
set_option maxRecDepth 100000 in
theorem wnX0_bettiOf (Q Q' : Int32 → XT → Prop) (hQ : (∀ (r : Int32) (t : XT), Q r t → Q' r t)) : ∀ k k' : Nat, k ≤ k' → (∀ (t : XT) (li : Nat → Int32) (lj : Nat → Int64), wpX0_bettiOf k 0 t li lj Q → wpX0_bettiOf k' 0 t li lj Q') := by
  intro k
  induction k with
  | zero => intro k' _; exact fun _ _ _ hR => False.elim hR
  | succ k ih =>
    intro k' hk
    cases k' with
    | zero => exact absurd hk (Nat.not_succ_le_zero k)
    | succ k' =>
      have hk := Nat.le_of_succ_le_succ hk
      have ihk := ih k' hk
      intro t li lj hR
      have hR : wbX0_bettiOf_0 (wpX0_bettiOf k) k t li lj Q := hR
      show wbX0_bettiOf_0 (wpX0_bettiOf k') k' t li lj Q'
      unfold wbX0_bettiOf_0 at hR ⊢
      exact ⟨hR.1, fun x1 e1 => fun x2 e2 => wmJ13_bitCount_95d88 hk (fun y3_0 h3 => wmX0_rankOf hk (fun y4_0 y4_1 h4 => fun x5 e5 => fun x6 e6 => wmX0_rankOf hk (fun y7_0 y7_1 h7 => fun x8 e8 => hQ _ _ (h7 x8 e8)) ((h4 x5 e5) x6 e6)) h3) ((hR.2 x1 e1) x2 e2)⟩
theorem wmX0_bettiOf {k k' : Nat} {t : XT} {a1 : Int64} {a2 : Int32} {a3 : Int32} {Q Q' : Int32 → XT → Prop} (hk : k ≤ k') (hQ : (∀ (r : Int32) (t : XT), Q r t → Q' r t)) (hR : wqX0_bettiOf k t a1 a2 a3 Q) : wqX0_bettiOf k' t a1 a2 a3 Q' := (wnX0_bettiOf Q Q' hQ k k' hk) _ _ _ hR
set_option maxHeartbeats 4000000 in
set_option maxRecDepth 100000 in
theorem wnX11_betti (Q Q' : Int32 → XT → Prop) (hQ : (∀ (r : Int32) (t : XT), Q r t → Q' r t)) : ∀ k k' : Nat, k ≤ k' → (∀ (t : XT) (li : Nat → Int32) (lj : Nat → Int64), wpX11_betti k 0 t li lj Q → wpX11_betti k' 0 t li lj Q') ∧ (∀ (t : XT) (li : Nat → Int32) (lj : Nat → Int64), wpX11_betti k 1 t li lj Q → wpX11_betti k' 1 t li lj Q') ∧ (∀ (t : XT) (li : Nat → Int32) (lj : Nat → Int64), wpX11_betti k 2 t li lj Q → wpX11_betti k' 2 t li lj Q') := by
  intro k
  induction k with
  | zero => intro k' _; exact ⟨fun _ _ _ hR => False.elim hR, fun _ _ _ hR => False.elim hR, fun _ _ _ hR => False.elim hR⟩
  | succ k ih =>
    intro k' hk
    cases k' with
    | zero => exact absurd hk (Nat.not_succ_le_zero k)
    | succ k' =>
      have hk := Nat.le_of_succ_le_succ hk
      have ihk := ih k' hk
      refine ⟨?_, ?_, ?_⟩
      · intro t li lj hR
        have hR : wbX11_betti_0 (wpX11_betti k) k t li lj Q := hR
        show wbX11_betti_0 (wpX11_betti k') k' t li lj Q'
        unfold wbX11_betti_0 at hR ⊢
        exact wmX11_isDim hk (fun y5_0 h5 => ⟨fun c4 => ihk.2.1 _ _ _ (h5.1 c4), fun c4 => ⟨fun c3 => ihk.2.1 _ _ _ ((h5.2 c4).1 c3), fun c3 => ⟨fun c2 => wmX11_basis hk (fun y6_0 y6_1 h6 => ⟨fun c1 => ihk.2.2 _ _ _ (h6.1 c1), fun c1 => ihk.2.2 _ _ _ (h6.2 c1)⟩) (((h5.2 c4).2 c3).1 c2), fun c2 => ihk.2.1 _ _ _ (((h5.2 c4).2 c3).2 c2)⟩⟩⟩) hR
      · intro t li lj hR
        have hR : wbX11_betti_1 (wpX11_betti k) k t li lj Q := hR
        show wbX11_betti_1 (wpX11_betti k') k' t li lj Q'
        unfold wbX11_betti_1 at hR ⊢
        exact hQ _ _ hR
      · intro t li lj hR
        have hR : wbX11_betti_2 (wpX11_betti k) k t li lj Q := hR
        show wbX11_betti_2 (wpX11_betti k') k' t li lj Q'
        unfold wbX11_betti_2 at hR ⊢
        exact wmX0_bettiOf hk (fun y7_0 y7_1 h7 => hQ _ _ h7) hR
theorem wmX11_betti {k k' : Nat} {t : XT} {a1 : Int32} {a2 : Int32} {Q Q' : Int32 → XT → Prop} (hk : k ≤ k') (hQ : (∀ (r : Int32) (t : XT), Q r t → Q' r t)) (hR : wqX11_betti k t a1 a2 Q) : wqX11_betti k' t a1 a2 Q' := (wnX11_betti Q Q' hQ k k' hk).1 _ _ _ hR
