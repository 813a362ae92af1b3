set_option maxHeartbeats 4000000 in
set_option maxRecDepth 100000 in
theorem ngX5_reduceColumns {h : Nat} (hh : 300 ≤ h) (Q Q' : Int32 → XT → Prop) : ∀ (k b : Nat), (∀ (t : XT) (li : Nat → Int32) (lj : Nat → Int64), b < 2147483648 → hN b t → (∀ r t, Q r t → hN (b) t → Q' r t) → wpX5_reduceColumns k 0 t li lj Q → wpX5_reduceColumns (h + k) 0 t li lj Q') ∧ (∀ (t : XT) (li : Nat → Int32) (lj : Nat → Int64), b < 2147483648 → hN b t → (∀ r t, Q r t → hN (b) t → Q' r t) → wpX5_reduceColumns k 1 t li lj Q → wpX5_reduceColumns (h + k) 1 t li lj Q') ∧ (∀ (t : XT) (li : Nat → Int32) (lj : Nat → Int64), b < 2147483648 → hN b t → (∀ r t, Q r t → hN (b) t → Q' r t) → wpX5_reduceColumns k 2 t li lj Q → wpX5_reduceColumns (h + k) 2 t li lj Q') ∧ (∀ (t : XT) (li : Nat → Int32) (lj : Nat → Int64), b < 2147483648 → hN b t → (∀ r t, Q r t → hN (b) t → Q' r t) → wpX5_reduceColumns k 3 t li lj Q → wpX5_reduceColumns (h + k) 3 t li lj Q') ∧ (∀ (t : XT) (li : Nat → Int32) (lj : Nat → Int64), b < 2147483648 → hN b t → (∀ r t, Q r t → hN (b) t → Q' r t) → wpX5_reduceColumns k 4 t li lj Q → wpX5_reduceColumns (h + k) 4 t li lj Q') ∧ (∀ (t : XT) (li : Nat → Int32) (lj : Nat → Int64), b < 2147483648 → hN b t → (∀ r t, Q r t → hN (b) t → Q' r t) → wpX5_reduceColumns k 5 t li lj Q → wpX5_reduceColumns (h + k) 5 t li lj Q') := by
  intro k
  induction k with
  | zero => intro b; exact ⟨fun _ _ _ _ _ _ hR => False.elim hR, fun _ _ _ _ _ _ hR => False.elim hR, fun _ _ _ _ _ _ hR => False.elim hR, fun _ _ _ _ _ _ hR => False.elim hR, fun _ _ _ _ _ _ hR => False.elim hR, fun _ _ _ _ _ _ hR => False.elim hR⟩
  | succ k ih =>
    intro b
    refine ⟨?_, ?_, ?_, ?_, ?_, ?_⟩
    · intro t li lj hb g hQ hR
      have hR : wbX5_reduceColumns_0 (wpX5_reduceColumns k) k t li lj Q := hR
      show wbX5_reduceColumns_0 (wpX5_reduceColumns (h + k)) (h + k) t li lj Q'
      unfold wbX5_reduceColumns_0 at hR ⊢
      exact fun x1 e1 => (ih (b)).2.1 _ _ _ (by omega) g (fun z0 z1 q0 g0 => hQ z0 z1 q0 (hN_mono (by omega) g0)) (hR x1 e1)
    · intro t li lj hb g hQ hR
      have hR : wbX5_reduceColumns_1 (wpX5_reduceColumns k) k t li lj Q := hR
      show wbX5_reduceColumns_1 (wpX5_reduceColumns (h + k)) (h + k) t li lj Q'
      unfold wbX5_reduceColumns_1 at hR ⊢
      exact ⟨fun c1 => ⟨(hR.1 c1).1, hQ _ _ (hR.1 c1).2 (hN_mono (by omega) g)⟩, fun c2 => fun x3 e3 => fun x4 e4 => ⟨(((hR.2 c2) x3 e3) x4 e4).1, fun x5 e5 => fun x6 e6 => fun x7 e7 => ⟨((((((hR.2 c2) x3 e3) x4 e4).2 x5 e5) x6 e6) x7 e7).1, fun x8 e8 => ndX5_nearest (((((((hR.2 c2) x3 e3) x4 e4).2 x5 e5) x6 e6) x7 e7).2 x8 e8) (fun y9_0 h9 => (ih (b)).2.2.1 _ _ _ (by omega) g (fun z0 z1 q0 g0 => hQ z0 z1 q0 (hN_mono (by omega) g0)) h9)⟩⟩⟩
    · intro t li lj hb g hQ hR
      have hR : wbX5_reduceColumns_2 (wpX5_reduceColumns k) k t li lj Q := hR
      show wbX5_reduceColumns_2 (wpX5_reduceColumns (h + k)) (h + k) t li lj Q'
      unfold wbX5_reduceColumns_2 at hR ⊢
      exact ⟨fun c1 => (ih (b)).2.2.2.1 _ _ _ (by omega) g (fun z0 z1 q0 g0 => hQ z0 z1 q0 (hN_mono (by omega) g0)) (hR.1 c1), fun c2 => fun x3 e3 => ⟨fun c4 => (ih (b)).2.2.2.1 _ _ _ (by omega) g (fun z0 z1 q0 g0 => hQ z0 z1 q0 (hN_mono (by omega) g0)) (((hR.2 c2) x3 e3).1 c4), fun c5 => fun x6 e6 => fun x7 e7 => ⟨(((((hR.2 c2) x3 e3).2 c5) x6 e6) x7 e7).1, fun x8 e8 => fun x9 e9 => fun x10 e10 => ⟨((((((((hR.2 c2) x3 e3).2 c5) x6 e6) x7 e7).2 x8 e8) x9 e9) x10 e10).1, fun x11 e11 => fun x12 e12 => fun x13 e13 => ndX5_remainder hh (by omega) g (((((((((((hR.2 c2) x3 e3).2 c5) x6 e6) x7 e7).2 x8 e8) x9 e9) x10 e10).2 x11 e11) x12 e12) x13 e13) (fun y14_0 y14_1 h14 g14 => ⟨h14.1, fun x15 e15 => have g15 : hN (b) x15 := (by rw [e15]; exact hN_B (by decide) g14); fun x16 e16 => (ih (b)).2.2.1 _ _ _ (by omega) g15 (fun z0 z1 q0 g0 => hQ z0 z1 q0 (hN_mono (by omega) g0)) ((h14.2 x15 e15) x16 e16)⟩)⟩⟩⟩⟩
    · intro t li lj hb g hQ hR
      have hR : wbX5_reduceColumns_3 (wpX5_reduceColumns k) k t li lj Q := hR
      show wbX5_reduceColumns_3 (wpX5_reduceColumns (h + k)) (h + k) t li lj Q'
      unfold wbX5_reduceColumns_3 at hR ⊢
      exact ⟨fun c1 => (ih (b)).2.2.2.2.1 _ _ _ (by omega) g (fun z0 z1 q0 g0 => hQ z0 z1 q0 (hN_mono (by omega) g0)) (hR.1 c1), fun c2 => fun x3 e3 => fun x4 e4 => ⟨(((hR.2 c2) x3 e3) x4 e4).1, fun x5 e5 => fun x6 e6 => ⟨fun c7 => (ih (b)).2.2.2.2.1 _ _ _ (by omega) g (fun z0 z1 q0 g0 => hQ z0 z1 q0 (hN_mono (by omega) g0)) ((((((hR.2 c2) x3 e3) x4 e4).2 x5 e5) x6 e6).1 c7), fun c8 => (ih (b)).2.2.2.2.2 _ _ _ (by omega) g (fun z0 z1 q0 g0 => hQ z0 z1 q0 (hN_mono (by omega) g0)) ((((((hR.2 c2) x3 e3) x4 e4).2 x5 e5) x6 e6).2 c8)⟩⟩⟩
    · intro t li lj hb g hQ hR
      have hR : wbX5_reduceColumns_4 (wpX5_reduceColumns k) k t li lj Q := hR
      show wbX5_reduceColumns_4 (wpX5_reduceColumns (h + k)) (h + k) t li lj Q'
      unfold wbX5_reduceColumns_4 at hR ⊢
      exact (ih (b)).2.2.2.2.2 _ _ _ (by omega) g (fun z0 z1 q0 g0 => hQ z0 z1 q0 (hN_mono (by omega) g0)) hR
    · intro t li lj hb g hQ hR
      have hR : wbX5_reduceColumns_5 (wpX5_reduceColumns k) k t li lj Q := hR
      show wbX5_reduceColumns_5 (wpX5_reduceColumns (h + k)) (h + k) t li lj Q'
      unfold wbX5_reduceColumns_5 at hR ⊢
      exact fun x1 e1 => (ih (b)).2.1 _ _ _ (by omega) g (fun z0 z1 q0 g0 => hQ z0 z1 q0 (hN_mono (by omega) g0)) (hR x1 e1)
theorem ndX5_reduceColumns {h b k : Nat} {t : XT} {a1 : Int32} {Q Q' : Int32 → XT → Prop} (hh : 300 ≤ h) (hb : b < 2147483648) (g : hN b t) (hR : wqX5_reduceColumns k t a1 Q) (hQ : ∀ r t, Q r t → hN (b) t → Q' r t) : wqX5_reduceColumns (h + k) t a1 Q' := (ngX5_reduceColumns hh Q Q' k b).1 t _ _ hb g hQ hR
set_option maxHeartbeats 4000000 in
set_option maxRecDepth 100000 in
theorem ngX5_clearCorner {h : Nat} (hh : 300 ≤ h) (Q Q' : Int64 → XT → Prop) : ∀ (k b : Nat), (∀ (t : XT) (li : Nat → Int32) (lj : Nat → Int64), b < 2147483648 → hN b t → (∀ r t, Q r t → hN (b) t → Q' r t) → wpX5_clearCorner k 0 t li lj Q → wpX5_clearCorner (h + k) 0 t li lj Q') ∧ (∀ (t : XT) (li : Nat → Int32) (lj : Nat → Int64), b < 2147483648 → hN b t → (∀ r t, Q r t → hN (b) t → Q' r t) → wpX5_clearCorner k 1 t li lj Q → wpX5_clearCorner (h + k) 1 t li lj Q') ∧ (∀ (t : XT) (li : Nat → Int32) (lj : Nat → Int64), b < 2147483648 → hN b t → (∀ r t, Q r t → hN (b) t → Q' r t) → wpX5_clearCorner k 2 t li lj Q → wpX5_clearCorner (h + k) 2 t li lj Q') ∧ (∀ (t : XT) (li : Nat → Int32) (lj : Nat → Int64), b < 2147483648 → hN b t → (∀ r t, Q r t → hN (b) t → Q' r t) → wpX5_clearCorner k 3 t li lj Q → wpX5_clearCorner (h + k) 3 t li lj Q') := by
  intro k
  induction k with
  | zero => intro b; exact ⟨fun _ _ _ _ _ _ hR => False.elim hR, fun _ _ _ _ _ _ hR => False.elim hR, fun _ _ _ _ _ _ hR => False.elim hR, fun _ _ _ _ _ _ hR => False.elim hR⟩
  | succ k ih =>
    intro b
    refine ⟨?_, ?_, ?_, ?_⟩
    · intro t li lj hb g hQ hR
      have hR : wbX5_clearCorner_0 (wpX5_clearCorner k) k t li lj Q := hR
      show wbX5_clearCorner_0 (wpX5_clearCorner (h + k)) (h + k) t li lj Q'
      unfold wbX5_clearCorner_0 at hR ⊢
      exact (ih (b)).2.1 _ _ _ (by omega) g (fun z0 z1 q0 g0 => hQ z0 z1 q0 (hN_mono (by omega) g0)) hR
    · intro t li lj hb g hQ hR
      have hR : wbX5_clearCorner_1 (wpX5_clearCorner k) k t li lj Q := hR
      show wbX5_clearCorner_1 (wpX5_clearCorner (h + k)) (h + k) t li lj Q'
      unfold wbX5_clearCorner_1 at hR ⊢
      exact ⟨fun c1 => hQ _ _ (hR.1 c1) (hN_mono (by omega) g), fun c2 => ndX5_leastCell hh (by omega) g (hR.2 c2) (fun y3_0 y3_1 h3 g3 => ⟨fun c4 => (ih (b)).2.2.1 _ _ _ (by omega) g3 (fun z0 z1 q0 g0 => hQ z0 z1 q0 (hN_mono (by omega) g0)) (h3.1 c4), fun c5 => ⟨fun c6 => ⟨((h3.2 c5).1 c6).1, fun x7 e7 => ndX5_swapRows_c30 hh (by omega) g3 (((h3.2 c5).1 c6).2 x7 e7) (fun y8_0 h8 g8 => ⟨h8.1, fun x9 e9 => ndX5_swapColumns hh (by omega) g8 (h8.2 x9 e9) (fun y10_0 h10 g10 => ndX5_reduceRows hh (by omega) g10 h10 (fun y11_0 y11_1 h11 g11 => ndX5_reduceColumns hh (by omega) g11 h11 (fun y12_0 y12_1 h12 g12 => ⟨fun c13 => (ih (b)).2.2.2 _ _ _ (by omega) g12 (fun z0 z1 q0 g0 => hQ z0 z1 q0 (hN_mono (by omega) g0)) (h12.1 c13), fun c14 => ⟨fun c15 => (ih (b)).2.2.2 _ _ _ (by omega) g12 (fun z0 z1 q0 g0 => hQ z0 z1 q0 (hN_mono (by omega) g0)) ((h12.2 c14).1 c15), fun c16 => fun x17 e17 => fun x18 e18 => ⟨((((h12.2 c14).2 c16) x17 e17) x18 e18).1, fun x19 e19 => ndX5_gcd (((((h12.2 c14).2 c16) x17 e17) x18 e18).2 x19 e19) (fun y20_0 h20 => hQ _ _ h20 (hN_mono (by omega) g12))⟩⟩⟩)))⟩)⟩, fun c21 => (ih (b)).2.2.1 _ _ _ (by omega) g3 (fun z0 z1 q0 g0 => hQ z0 z1 q0 (hN_mono (by omega) g0)) ((h3.2 c5).2 c21)⟩⟩)⟩
    · intro t li lj hb g hQ hR
      have hR : wbX5_clearCorner_2 (wpX5_clearCorner k) k t li lj Q := hR
      show wbX5_clearCorner_2 (wpX5_clearCorner (h + k)) (h + k) t li lj Q'
      unfold wbX5_clearCorner_2 at hR ⊢
      exact hQ _ _ hR (hN_mono (by omega) g)
    · intro t li lj hb g hQ hR
      have hR : wbX5_clearCorner_3 (wpX5_clearCorner k) k t li lj Q := hR
      show wbX5_clearCorner_3 (wpX5_clearCorner (h + k)) (h + k) t li lj Q'
      unfold wbX5_clearCorner_3 at hR ⊢
      exact fun x1 e1 => (ih (b)).2.1 _ _ _ (by omega) g (fun z0 z1 q0 g0 => hQ z0 z1 q0 (hN_mono (by omega) g0)) (hR x1 e1)
theorem ndX5_clearCorner {h b k : Nat} {t : XT} {a1 : Int32} {Q Q' : Int64 → XT → Prop} (hh : 300 ≤ h) (hb : b < 2147483648) (g : hN b t) (hR : wqX5_clearCorner k t a1 Q) (hQ : ∀ r t, Q r t → hN (b) t → Q' r t) : wqX5_clearCorner (h + k) t a1 Q' := (ngX5_clearCorner hh Q Q' k b).1 t _ _ hb g hQ hR
set_option maxHeartbeats 4000000 in
set_option maxRecDepth 100000 in
theorem ngX5_makeDivide {h : Nat} (hh : 300 ≤ h) (Q Q' : XT → Prop) : ∀ (k b : Nat), (∀ (t : XT) (li : Nat → Int32) (lj : Nat → Int64), b < 2147483648 → hN b t → (∀ t, Q t → hN (b) t → Q' t) → wpX5_makeDivide k 0 t li lj Q → wpX5_makeDivide (h + k) 0 t li lj Q') := by
  intro k
  induction k with
  | zero => intro b; exact fun _ _ _ _ _ _ hR => False.elim hR
  | succ k ih =>
    intro b
    intro t li lj hb g hQ hR
    have hR : wbX5_makeDivide_0 (wpX5_makeDivide k) k t li lj Q := hR
    show wbX5_makeDivide_0 (wpX5_makeDivide (h + k)) (h + k) t li lj Q'
    unfold wbX5_makeDivide_0 at hR ⊢
    exact ⟨hR.1, fun x1 e1 => ⟨(hR.2 x1 e1).1, fun x2 e2 => ndX5_gcd ((hR.2 x1 e1).2 x2 e2) (fun y3_0 h3 => fun x4 e4 => ⟨fun c5 => hQ _ ((h3 x4 e4).1 c5) (hN_mono (by omega) g), fun c6 => ⟨((h3 x4 e4).2 c6).1, fun x7 e7 => ⟨(((h3 x4 e4).2 c6).2 x7 e7).1, fun x8 e8 => ⟨((((h3 x4 e4).2 c6).2 x7 e7).2 x8 e8).1, fun x9 e9 => fun x10 e10 => ⟨((((((h3 x4 e4).2 c6).2 x7 e7).2 x8 e8).2 x9 e9) x10 e10).1, fun x11 e11 => have g11 : hN (b) x11 := (by rw [e11]; exact hN_B (by decide) g); ⟨(((((((h3 x4 e4).2 c6).2 x7 e7).2 x8 e8).2 x9 e9) x10 e10).2 x11 e11).1, fun x12 e12 => have g12 : hN (b) x12 := (by rw [e12]; exact hN_B (by decide) g11); hQ _ ((((((((h3 x4 e4).2 c6).2 x7 e7).2 x8 e8).2 x9 e9) x10 e10).2 x11 e11).2 x12 e12) (hN_mono (by omega) g12)⟩⟩⟩⟩⟩⟩)⟩⟩
theorem ndX5_makeDivide {h b k : Nat} {t : XT} {a1 : Int32} {a2 : Int32} {Q Q' : XT → Prop} (hh : 300 ≤ h) (hb : b < 2147483648) (g : hN b t) (hR : wqX5_makeDivide k t a1 a2 Q) (hQ : ∀ t, Q t → hN (b) t → Q' t) : wqX5_makeDivide (h + k) t a1 a2 Q' := (ngX5_makeDivide hh Q Q' k b) t _ _ hb g hQ hR
set_option maxHeartbeats 4000000 in
set_option maxRecDepth 100000 in
theorem ngX5_diagonalise {h : Nat} (hh : 300 ≤ h) (Q Q' : XT → Prop) : ∀ (k b : Nat), (∀ (t : XT) (li : Nat → Int32) (lj : Nat → Int64), b < 2147483648 → hN b t → (∀ t, Q t → hN (b) t → Q' t) → wpX5_diagonalise k 0 t li lj Q → wpX5_diagonalise (h + k) 0 t li lj Q') ∧ (∀ (t : XT) (li : Nat → Int32) (lj : Nat → Int64), b < 2147483648 → hN b t → (∀ t, Q t → hN (b) t → Q' t) → wpX5_diagonalise k 1 t li lj Q → wpX5_diagonalise (h + k) 1 t li lj Q') ∧ (∀ (t : XT) (li : Nat → Int32) (lj : Nat → Int64), b < 2147483648 → hN b t → (∀ t, Q t → hN (b) t → Q' t) → wpX5_diagonalise k 2 t li lj Q → wpX5_diagonalise (h + k) 2 t li lj Q') ∧ (∀ (t : XT) (li : Nat → Int32) (lj : Nat → Int64), b < 2147483648 → hN b t → (∀ t, Q t → hN (b) t → Q' t) → wpX5_diagonalise k 3 t li lj Q → wpX5_diagonalise (h + k) 3 t li lj Q') ∧ (∀ (t : XT) (li : Nat → Int32) (lj : Nat → Int64), b < 2147483648 → hN b t → (∀ t, Q t → hN (b) t → Q' t) → wpX5_diagonalise k 4 t li lj Q → wpX5_diagonalise (h + k) 4 t li lj Q') := by
  intro k
  induction k with
  | zero => intro b; exact ⟨fun _ _ _ _ _ _ hR => False.elim hR, fun _ _ _ _ _ _ hR => False.elim hR, fun _ _ _ _ _ _ hR => False.elim hR, fun _ _ _ _ _ _ hR => False.elim hR, fun _ _ _ _ _ _ hR => False.elim hR⟩
  | succ k ih =>
    intro b
    refine ⟨?_, ?_, ?_, ?_, ?_⟩
    · intro t li lj hb g hQ hR
      have hR : wbX5_diagonalise_0 (wpX5_diagonalise k) k t li lj Q := hR
      show wbX5_diagonalise_0 (wpX5_diagonalise (h + k)) (h + k) t li lj Q'
      unfold wbX5_diagonalise_0 at hR ⊢
      exact fun x1 e1 => (ih (b)).2.1 _ _ _ (by omega) g (fun z0 q0 g0 => hQ z0 q0 (hN_mono (by omega) g0)) (hR x1 e1)
    · intro t li lj hb g hQ hR
      have hR : wbX5_diagonalise_1 (wpX5_diagonalise k) k t li lj Q := hR
      show wbX5_diagonalise_1 (wpX5_diagonalise (h + k)) (h + k) t li lj Q'
      unfold wbX5_diagonalise_1 at hR ⊢
      exact fun x1 e1 => ⟨fun c2 => (ih (b)).2.2.1 _ _ _ (by omega) g (fun z0 q0 g0 => hQ z0 q0 (hN_mono (by omega) g0)) ((hR x1 e1).1 c2), fun c3 => ⟨((hR x1 e1).2 c3).1, fun x4 e4 => ndX5_remainder hh (by omega) g (((hR x1 e1).2 c3).2 x4 e4) (fun y5_0 y5_1 h5 g5 => ⟨h5.1, fun x6 e6 => have g6 : hN (b) x6 := (by rw [e6]; exact hN_B (by decide) g5); fun x7 e7 => (ih (b)).2.1 _ _ _ (by omega) g6 (fun z0 q0 g0 => hQ z0 q0 (hN_mono (by omega) g0)) ((h5.2 x6 e6) x7 e7)⟩)⟩⟩
    · intro t li lj hb g hQ hR
      have hR : wbX5_diagonalise_2 (wpX5_diagonalise k) k t li lj Q := hR
      show wbX5_diagonalise_2 (wpX5_diagonalise (h + k)) (h + k) t li lj Q'
      unfold wbX5_diagonalise_2 at hR ⊢
      exact ⟨fun c1 => (ih (b)).2.2.2.1 _ _ _ (by omega) g (fun z0 q0 g0 => hQ z0 q0 (hN_mono (by omega) g0)) (hR.1 c1), fun c2 => ndX5_clearCorner hh (by omega) g (hR.2 c2) (fun y3_0 y3_1 h3 g3 => ⟨h3.1, fun x4 e4 => have g4 : hN (b) x4 := (by rw [e4]; exact hN_B (by decide) g3); fun x5 e5 => (ih (b)).2.2.1 _ _ _ (by omega) g4 (fun z0 q0 g0 => hQ z0 q0 (hN_mono (by omega) g0)) ((h3.2 x4 e4) x5 e5)⟩)⟩
    · intro t li lj hb g hQ hR
      have hR : wbX5_diagonalise_3 (wpX5_diagonalise k) k t li lj Q := hR
      show wbX5_diagonalise_3 (wpX5_diagonalise (h + k)) (h + k) t li lj Q'
      unfold wbX5_diagonalise_3 at hR ⊢
      exact ⟨fun c1 => hQ _ (hR.1 c1) (hN_mono (by omega) g), fun c2 => fun x3 e3 => (ih (b)).2.2.2.2 _ _ _ (by omega) g (fun z0 q0 g0 => hQ z0 q0 (hN_mono (by omega) g0)) ((hR.2 c2) x3 e3)⟩
    · intro t li lj hb g hQ hR
      have hR : wbX5_diagonalise_4 (wpX5_diagonalise k) k t li lj Q := hR
      show wbX5_diagonalise_4 (wpX5_diagonalise (h + k)) (h + k) t li lj Q'
      unfold wbX5_diagonalise_4 at hR ⊢
      exact ⟨fun c1 => fun x2 e2 => (ih (b)).2.2.2.1 _ _ _ (by omega) g (fun z0 q0 g0 => hQ z0 q0 (hN_mono (by omega) g0)) ((hR.1 c1) x2 e2), fun c3 => ndX5_makeDivide hh (by omega) g (hR.2 c3) (fun y4_0 h4 g4 => fun x5 e5 => (ih (b)).2.2.2.2 _ _ _ (by omega) g4 (fun z0 q0 g0 => hQ z0 q0 (hN_mono (by omega) g0)) (h4 x5 e5))⟩
theorem ndX5_diagonalise {h b k : Nat} {t : XT}  {Q Q' : XT → Prop} (hh : 300 ≤ h) (hb : b < 2147483648) (g : hN b t) (hR : wqX5_diagonalise k t  Q) (hQ : ∀ t, Q t → hN (b) t → Q' t) : wqX5_diagonalise (h + k) t  Q' := (ngX5_diagonalise hh Q Q' k b).1 t _ _ hb g hQ hR
set_option maxHeartbeats 4000000 in
set_option maxRecDepth 100000 in
theorem ngX0_torsionsOf {h : Nat} (hh : 300 ≤ h) (Q Q' : Int32 → XT → Prop) : ∀ (k b : Nat), (∀ (t : XT) (li : Nat → Int32) (lj : Nat → Int64), b < 2147483648 → hN b t → (∀ r t, Q r t → hN (b) t → Q' r t) → wpX0_torsionsOf k 0 t li lj Q → wpX0_torsionsOf (h + k) 0 t li lj Q') ∧ (∀ (t : XT) (li : Nat → Int32) (lj : Nat → Int64), b < 2147483648 → hN b t → (∀ r t, Q r t → hN (b) t → Q' r t) → wpX0_torsionsOf k 1 t li lj Q → wpX0_torsionsOf (h + k) 1 t li lj Q') ∧ (∀ (t : XT) (li : Nat → Int32) (lj : Nat → Int64), b < 2147483648 → hN b t → (∀ r t, Q r t → hN (b) t → Q' r t) → wpX0_torsionsOf k 2 t li lj Q → wpX0_torsionsOf (h + k) 2 t li lj Q') ∧ (∀ (t : XT) (li : Nat → Int32) (lj : Nat → Int64), b < 2147483648 → hN b t → (∀ r t, Q r t → hN (b) t → Q' r t) → wpX0_torsionsOf k 3 t li lj Q → wpX0_torsionsOf (h + k) 3 t li lj Q') ∧ (∀ (t : XT) (li : Nat → Int32) (lj : Nat → Int64), b < 2147483648 → hN b t → (∀ r t, Q r t → hN (b) t → Q' r t) → wpX0_torsionsOf k 4 t li lj Q → wpX0_torsionsOf (h + k) 4 t li lj Q') := by
  intro k
  induction k with
  | zero => intro b; exact ⟨fun _ _ _ _ _ _ hR => False.elim hR, fun _ _ _ _ _ _ hR => False.elim hR, fun _ _ _ _ _ _ hR => False.elim hR, fun _ _ _ _ _ _ hR => False.elim hR, fun _ _ _ _ _ _ hR => False.elim hR⟩
  | succ k ih =>
    intro b
    refine ⟨?_, ?_, ?_, ?_, ?_⟩
    · intro t li lj hb g hQ hR
      have hR : wbX0_torsionsOf_0 (wpX0_torsionsOf k) k t li lj Q := hR
      show wbX0_torsionsOf_0 (wpX0_torsionsOf (h + k)) (h + k) t li lj Q'
      unfold wbX0_torsionsOf_0 at hR ⊢
      exact fun x1 e1 => ndX0_rankOf hh (by omega) g (hR x1 e1) (fun y2_0 y2_1 h2 g2 => ⟨fun c3 => (ih (b)).2.1 _ _ _ (by omega) g2 (fun z0 z1 q0 g0 => hQ z0 z1 q0 (hN_mono (by omega) g0)) (h2.1 c3), fun c4 => fun x5 e5 => ⟨fun c6 => ndX5_diagonalise hh (by omega) g2 (((h2.2 c4) x5 e5).1 c6) (fun y7_0 h7 g7 => (ih (b)).2.2.1 _ _ _ (by omega) g7 (fun z0 z1 q0 g0 => hQ z0 z1 q0 (hN_mono (by omega) g0)) h7), fun c8 => (ih (b)).2.1 _ _ _ (by omega) g2 (fun z0 z1 q0 g0 => hQ z0 z1 q0 (hN_mono (by omega) g0)) (((h2.2 c4) x5 e5).2 c8)⟩⟩)
    · intro t li lj hb g hQ hR
      have hR : wbX0_torsionsOf_1 (wpX0_torsionsOf k) k t li lj Q := hR
      show wbX0_torsionsOf_1 (wpX0_torsionsOf (h + k)) (h + k) t li lj Q'
      unfold wbX0_torsionsOf_1 at hR ⊢
      exact hQ _ _ hR (hN_mono (by omega) g)
    · intro t li lj hb g hQ hR
      have hR : wbX0_torsionsOf_2 (wpX0_torsionsOf k) k t li lj Q := hR
      show wbX0_torsionsOf_2 (wpX0_torsionsOf (h + k)) (h + k) t li lj Q'
      unfold wbX0_torsionsOf_2 at hR ⊢
      exact ⟨fun c1 => (ih (b)).2.2.2.2 _ _ _ (by omega) g (fun z0 z1 q0 g0 => hQ z0 z1 q0 (hN_mono (by omega) g0)) (hR.1 c1), fun c2 => ⟨fun c3 => (ih (b)).2.2.2.2 _ _ _ (by omega) g (fun z0 z1 q0 g0 => hQ z0 z1 q0 (hN_mono (by omega) g0)) ((hR.2 c2).1 c3), fun c4 => ⟨((hR.2 c2).2 c4).1, fun x5 e5 => fun x6 e6 => ⟨fun c7 => (ih (b)).2.2.2.1 _ _ _ (by omega) g (fun z0 z1 q0 g0 => hQ z0 z1 q0 (hN_mono (by omega) g0)) (((((hR.2 c2).2 c4).2 x5 e5) x6 e6).1 c7), fun c8 => ⟨(((((hR.2 c2).2 c4).2 x5 e5) x6 e6).2 c8).1, fun x9 e9 => ⟨((((((hR.2 c2).2 c4).2 x5 e5) x6 e6).2 c8).2 x9 e9).1, fun x10 e10 => have g10 : hN (b) x10 := (by rw [e10]; exact hN_B (by decide) g); fun x11 e11 => (ih (b)).2.2.2.1 _ _ _ (by omega) g10 (fun z0 z1 q0 g0 => hQ z0 z1 q0 (hN_mono (by omega) g0)) ((((((((hR.2 c2).2 c4).2 x5 e5) x6 e6).2 c8).2 x9 e9).2 x10 e10) x11 e11)⟩⟩⟩⟩⟩⟩
    · intro t li lj hb g hQ hR
      have hR : wbX0_torsionsOf_3 (wpX0_torsionsOf k) k t li lj Q := hR
      show wbX0_torsionsOf_3 (wpX0_torsionsOf (h + k)) (h + k) t li lj Q'
      unfold wbX0_torsionsOf_3 at hR ⊢
      exact fun x1 e1 => (ih (b)).2.2.1 _ _ _ (by omega) g (fun z0 z1 q0 g0 => hQ z0 z1 q0 (hN_mono (by omega) g0)) (hR x1 e1)
    · intro t li lj hb g hQ hR
      have hR : wbX0_torsionsOf_4 (wpX0_torsionsOf k) k t li lj Q := hR
      show wbX0_torsionsOf_4 (wpX0_torsionsOf (h + k)) (h + k) t li lj Q'
      unfold wbX0_torsionsOf_4 at hR ⊢
      exact hQ _ _ hR (hN_mono (by omega) g)
theorem ndX0_torsionsOf {h b k : Nat} {t : XT} {a1 : Int64} {a2 : Int32} {a3 : Int32} {Q Q' : Int32 → XT → Prop} (hh : 300 ≤ h) (hb : b < 2147483648) (g : hN b t) (hR : wqX0_torsionsOf k t a1 a2 a3 Q) (hQ : ∀ r t, Q r t → hN (b) t → Q' r t) : wqX0_torsionsOf (h + k) t a1 a2 a3 Q' := (ngX0_torsionsOf hh Q Q' k b).1 t _ _ hb g hQ hR
set_option maxHeartbeats 4000000 in
set_option maxRecDepth 100000 in
theorem ngX11_torsion {h : Nat} (hh : 300 ≤ h) (Q Q' : Int64 → XT → Prop) : ∀ (k b : Nat), (∀ (t : XT) (li : Nat → Int32) (lj : Nat → Int64), b < 2147483648 → hN b t → (∀ r t, Q r t → hN (b) t → Q' r t) → wpX11_torsion k 0 t li lj Q → wpX11_torsion (h + k) 0 t li lj Q') ∧ (∀ (t : XT) (li : Nat → Int32) (lj : Nat → Int64), b < 2147483648 → hN b t → (∀ r t, Q r t → hN (b) t → Q' r t) → wpX11_torsion k 1 t li lj Q → wpX11_torsion (h + k) 1 t li lj Q') ∧ (∀ (t : XT) (li : Nat → Int32) (lj : Nat → Int64), b < 2147483648 → hN b t → (∀ r t, Q r t → hN (b) t → Q' r t) → wpX11_torsion k 2 t li lj Q → wpX11_torsion (h + k) 2 t li lj Q') := by
  intro k
  induction k with
  | zero => intro b; exact ⟨fun _ _ _ _ _ _ hR => False.elim hR, fun _ _ _ _ _ _ hR => False.elim hR, fun _ _ _ _ _ _ hR => False.elim hR⟩
  | succ k ih =>
    intro b
    refine ⟨?_, ?_, ?_⟩
    · intro t li lj hb g hQ hR
      have hR : wbX11_torsion_0 (wpX11_torsion k) k t li lj Q := hR
      show wbX11_torsion_0 (wpX11_torsion (h + k)) (h + k) t li lj Q'
      unfold wbX11_torsion_0 at hR ⊢
      exact ndX11_isDim hR (fun y1_0 h1 => ⟨fun c2 => (ih (b)).2.1 _ _ _ (by omega) g (fun z0 z1 q0 g0 => hQ z0 z1 q0 (hN_mono (by omega) g0)) (h1.1 c2), fun c3 => ⟨fun c4 => (ih (b)).2.1 _ _ _ (by omega) g (fun z0 z1 q0 g0 => hQ z0 z1 q0 (hN_mono (by omega) g0)) ((h1.2 c3).1 c4), fun c5 => ⟨fun c6 => (ih (b)).2.1 _ _ _ (by omega) g (fun z0 z1 q0 g0 => hQ z0 z1 q0 (hN_mono (by omega) g0)) (((h1.2 c3).2 c5).1 c6), fun c7 => ⟨fun c8 => ndX11_basis hh (by omega) g ((((h1.2 c3).2 c5).2 c7).1 c8) (fun y9_0 y9_1 h9 g9 => ⟨fun c10 => (ih (b)).2.2 _ _ _ (by omega) g9 (fun z0 z1 q0 g0 => hQ z0 z1 q0 (hN_mono (by omega) g0)) (h9.1 c10), fun c11 => (ih (b)).2.2 _ _ _ (by omega) g9 (fun z0 z1 q0 g0 => hQ z0 z1 q0 (hN_mono (by omega) g0)) (h9.2 c11)⟩), fun c12 => (ih (b)).2.1 _ _ _ (by omega) g (fun z0 z1 q0 g0 => hQ z0 z1 q0 (hN_mono (by omega) g0)) ((((h1.2 c3).2 c5).2 c7).2 c12)⟩⟩⟩⟩)
    · intro t li lj hb g hQ hR
      have hR : wbX11_torsion_1 (wpX11_torsion k) k t li lj Q := hR
      show wbX11_torsion_1 (wpX11_torsion (h + k)) (h + k) t li lj Q'
      unfold wbX11_torsion_1 at hR ⊢
      exact hQ _ _ hR (hN_mono (by omega) g)
    · intro t li lj hb g hQ hR
      have hR : wbX11_torsion_2 (wpX11_torsion k) k t li lj Q := hR
      show wbX11_torsion_2 (wpX11_torsion (h + k)) (h + k) t li lj Q'
      unfold wbX11_torsion_2 at hR ⊢
      exact ndX0_torsionsOf hh (by omega) g hR (fun y1_0 y1_1 h1 g1 => ⟨fun c2 => ⟨fun c3 => hQ _ _ ((h1.1 c2).1 c3) (hN_mono (by omega) g1), fun c4 => ⟨((h1.1 c2).2 c4).1, fun x5 e5 => hQ _ _ (((h1.1 c2).2 c4).2 x5 e5) (hN_mono (by omega) g1)⟩⟩, fun c6 => fun x7 e7 => hQ _ _ ((h1.2 c6) x7 e7) (hN_mono (by omega) g1)⟩)
theorem ndX11_torsion {h b k : Nat} {t : XT} {a1 : Int32} {a2 : Int32} {a3 : Int32} {Q Q' : Int64 → XT → Prop} (hh : 300 ≤ h) (hb : b < 2147483648) (g : hN b t) (hR : wqX11_torsion k t a1 a2 a3 Q) (hQ : ∀ r t, Q r t → hN (b) t → Q' r t) : wqX11_torsion (h + k) t a1 a2 a3 Q' := (ngX11_torsion hh Q Q' k b).1 t _ _ hb g hQ hR
set_option maxHeartbeats 4000000 in
set_option maxRecDepth 100000 in
theorem ngX11_slack {h : Nat} (hh : 300 ≤ h) (Q Q' : Int32 → XT → Prop) : ∀ (k b : Nat), (∀ (t : XT) (li : Nat → Int32) (lj : Nat → Int64), b < 2147483648 → hN b t → (∀ r t, Q r t → hN (b) t → Q' r t) → wpX11_slack k 0 t li lj Q → wpX11_slack (h + k) 0 t li lj Q') ∧ (∀ (t : XT) (li : Nat → Int32) (lj : Nat → Int64), b < 2147483648 → hN b t → (∀ r t, Q r t → hN (b) t → Q' r t) → wpX11_slack k 1 t li lj Q → wpX11_slack (h + k) 1 t li lj Q') := by
  intro k
  induction k with
  | zero => intro b; exact ⟨fun _ _ _ _ _ _ hR => False.elim hR, fun _ _ _ _ _ _ hR => False.elim hR⟩
  | succ k ih =>
    intro b
    refine ⟨?_, ?_⟩
    · intro t li lj hb g hQ hR
      have hR : wbX11_slack_0 (wpX11_slack k) k t li lj Q := hR
      show wbX11_slack_0 (wpX11_slack (h + k)) (h + k) t li lj Q'
      unfold wbX11_slack_0 at hR ⊢
      exact ndX11_isDim hR (fun y1_0 h1 => ⟨fun c2 => (ih (b)).2 _ _ _ (by omega) g (fun z0 z1 q0 g0 => hQ z0 z1 q0 (hN_mono (by omega) g0)) (h1.1 c2), fun c3 => hQ _ _ (h1.2 c3) (hN_mono (by omega) g)⟩)
    · intro t li lj hb g hQ hR
      have hR : wbX11_slack_1 (wpX11_slack k) k t li lj Q := hR
      show wbX11_slack_1 (wpX11_slack (h + k)) (h + k) t li lj Q'
      unfold wbX11_slack_1 at hR ⊢
      exact ⟨fun c1 => hQ _ _ (hR.1 c1) (hN_mono (by omega) g), fun c2 => ndX6_unpaired hh (by omega) g (hR.2 c2) (fun y3_0 y3_1 h3 g3 => ⟨h3.1, fun x4 e4 => fun x5 e5 => ndJ13_bitCount_95d88 ((h3.2 x4 e4) x5 e5) (fun y6_0 h6 => ndX0_bettiOf hh (by omega) g3 h6 (fun y7_0 y7_1 h7 g7 => fun x8 e8 => fun x9 e9 => fun x10 e10 => (ih (b)).2 _ _ _ (by omega) g7 (fun z0 z1 q0 g0 => hQ z0 z1 q0 (hN_mono (by omega) g0)) (((h7 x8 e8) x9 e9) x10 e10)))⟩)⟩
theorem ndX11_slack {h b k : Nat} {t : XT} {a1 : Int32} {Q Q' : Int32 → XT → Prop} (hh : 300 ≤ h) (hb : b < 2147483648) (g : hN b t) (hR : wqX11_slack k t a1 Q) (hQ : ∀ r t, Q r t → hN (b) t → Q' r t) : wqX11_slack (h + k) t a1 Q' := (ngX11_slack hh Q Q' k b).1 t _ _ hb g hQ hR
set_option maxHeartbeats 4000000 in
set_option maxRecDepth 100000 in
theorem ngX11_free {h : Nat} (hh : 300 ≤ h) (Q Q' : Int32 → XT → Prop) : ∀ (k b : Nat), (∀ (t : XT) (li : Nat → Int32) (lj : Nat → Int64), b < 2147483648 → hN b t → (∀ r t, Q r t → hN (b) t → Q' r t) → wpX11_free k 0 t li lj Q → wpX11_free (h + k) 0 t li lj Q') ∧ (∀ (t : XT) (li : Nat → Int32) (lj : Nat → Int64), b < 2147483648 → hN b t → (∀ r t, Q r t → hN (b) t → Q' r t) → wpX11_free k 1 t li lj Q → wpX11_free (h + k) 1 t li lj Q') ∧ (∀ (t : XT) (li : Nat → Int32) (lj : Nat → Int64), b < 2147483648 → hN b t → (∀ r t, Q r t → hN (b) t → Q' r t) → wpX11_free k 2 t li lj Q → wpX11_free (h + k) 2 t li lj Q') := by
  intro k
  induction k with
  | zero => intro b; exact ⟨fun _ _ _ _ _ _ hR => False.elim hR, fun _ _ _ _ _ _ hR => False.elim hR, fun _ _ _ _ _ _ hR => False.elim hR⟩
  | succ k ih =>
    intro b
    refine ⟨?_, ?_, ?_⟩
    · intro t li lj hb g hQ hR
      have hR : wbX11_free_0 (wpX11_free k) k t li lj Q := hR
      show wbX11_free_0 (wpX11_free (h + k)) (h + k) t li lj Q'
      unfold wbX11_free_0 at hR ⊢
      exact ⟨fun c1 => (ih (b)).2.1 _ _ _ (by omega) g (fun z0 z1 q0 g0 => hQ z0 z1 q0 (hN_mono (by omega) g0)) (hR.1 c1), fun c2 => hQ _ _ (hR.2 c2) (hN_mono (by omega) g)⟩
    · intro t li lj hb g hQ hR
      have hR : wbX11_free_1 (wpX11_free k) k t li lj Q := hR
      show wbX11_free_1 (wpX11_free (h + k)) (h + k) t li lj Q'
      unfold wbX11_free_1 at hR ⊢
      exact ⟨fun c1 => ndX11_listed (hR.1 c1) (fun y2_0 h2 => hQ _ _ h2 (hN_mono (by omega) g)), fun c3 => ndX11_isThere hh (by omega) g (hR.2 c3) (fun y4_0 y4_1 h4 g4 => ⟨fun c5 => (ih (b)).2.2 _ _ _ (by omega) g4 (fun z0 z1 q0 g0 => hQ z0 z1 q0 (hN_mono (by omega) g0)) (h4.1 c5), fun c6 => ndX11_isFree hh (by omega) g4 (h4.2 c6) (fun y7_0 y7_1 h7 g7 => ⟨fun c8 => (ih (b)).2.2 _ _ _ (by omega) g7 (fun z0 z1 q0 g0 => hQ z0 z1 q0 (hN_mono (by omega) g0)) (h7.1 c8), fun c9 => ndX11_bit (h7.2 c9) (fun y10_0 h10 => fun x11 e11 => (ih (b)).2.2 _ _ _ (by omega) g7 (fun z0 z1 q0 g0 => hQ z0 z1 q0 (hN_mono (by omega) g0)) (h10 x11 e11))⟩)⟩)⟩
    · intro t li lj hb g hQ hR
      have hR : wbX11_free_2 (wpX11_free k) k t li lj Q := hR
      show wbX11_free_2 (wpX11_free (h + k)) (h + k) t li lj Q'
      unfold wbX11_free_2 at hR ⊢
      exact fun x1 e1 => (ih (b)).2.1 _ _ _ (by omega) g (fun z0 z1 q0 g0 => hQ z0 z1 q0 (hN_mono (by omega) g0)) (hR x1 e1)
theorem ndX11_free {h b k : Nat} {t : XT} {a1 : Int32} {Q Q' : Int32 → XT → Prop} (hh : 300 ≤ h) (hb : b < 2147483648) (g : hN b t) (hR : wqX11_free k t a1 Q) (hQ : ∀ r t, Q r t → hN (b) t → Q' r t) : wqX11_free (h + k) t a1 Q' := (ngX11_free hh Q Q' k b).1 t _ _ hb g hQ hR
set_option maxHeartbeats 4000000 in
set_option maxRecDepth 100000 in
theorem ngX11_facet {h : Nat} (hh : 300 ≤ h) (Q Q' : Int32 → XT → Prop) : ∀ (k b : Nat), (∀ (t : XT) (li : Nat → Int32) (lj : Nat → Int64), b < 2147483648 → hN b t → (∀ r t, Q r t → hN (b) t → Q' r t) → wpX11_facet k 0 t li lj Q → wpX11_facet (h + k) 0 t li lj Q') ∧ (∀ (t : XT) (li : Nat → Int32) (lj : Nat → Int64), b < 2147483648 → hN b t → (∀ r t, Q r t → hN (b) t → Q' r t) → wpX11_facet k 1 t li lj Q → wpX11_facet (h + k) 1 t li lj Q') ∧ (∀ (t : XT) (li : Nat → Int32) (lj : Nat → Int64), b < 2147483648 → hN b t → (∀ r t, Q r t → hN (b) t → Q' r t) → wpX11_facet k 2 t li lj Q → wpX11_facet (h + k) 2 t li lj Q') := by
  intro k
  induction k with
  | zero => intro b; exact ⟨fun _ _ _ _ _ _ hR => False.elim hR, fun _ _ _ _ _ _ hR => False.elim hR, fun _ _ _ _ _ _ hR => False.elim hR⟩
  | succ k ih =>
    intro b
    refine ⟨?_, ?_, ?_⟩
    · intro t li lj hb g hQ hR
      have hR : wbX11_facet_0 (wpX11_facet k) k t li lj Q := hR
      show wbX11_facet_0 (wpX11_facet (h + k)) (h + k) t li lj Q'
      unfold wbX11_facet_0 at hR ⊢
      exact ⟨fun c1 => (ih (b)).2.1 _ _ _ (by omega) g (fun z0 z1 q0 g0 => hQ z0 z1 q0 (hN_mono (by omega) g0)) (hR.1 c1), fun c2 => hQ _ _ (hR.2 c2) (hN_mono (by omega) g)⟩
    · intro t li lj hb g hQ hR
      have hR : wbX11_facet_1 (wpX11_facet k) k t li lj Q := hR
      show wbX11_facet_1 (wpX11_facet (h + k)) (h + k) t li lj Q'
      unfold wbX11_facet_1 at hR ⊢
      exact ⟨fun c1 => ndX11_listed (hR.1 c1) (fun y2_0 h2 => hQ _ _ h2 (hN_mono (by omega) g)), fun c3 => ndX11_isThere hh (by omega) g (hR.2 c3) (fun y4_0 y4_1 h4 g4 => ⟨fun c5 => (ih (b)).2.2 _ _ _ (by omega) g4 (fun z0 z1 q0 g0 => hQ z0 z1 q0 (hN_mono (by omega) g0)) (h4.1 c5), fun c6 => ⟨(h4.2 c6).1, fun x7 e7 => fun x8 e8 => fun x9 e9 => ⟨fun c10 => (ih (b)).2.2 _ _ _ (by omega) g4 (fun z0 z1 q0 g0 => hQ z0 z1 q0 (hN_mono (by omega) g0)) (((((h4.2 c6).2 x7 e7) x8 e8) x9 e9).1 c10), fun c11 => ndX11_bit (((((h4.2 c6).2 x7 e7) x8 e8) x9 e9).2 c11) (fun y12_0 h12 => fun x13 e13 => (ih (b)).2.2 _ _ _ (by omega) g4 (fun z0 z1 q0 g0 => hQ z0 z1 q0 (hN_mono (by omega) g0)) (h12 x13 e13))⟩⟩⟩)⟩
    · intro t li lj hb g hQ hR
      have hR : wbX11_facet_2 (wpX11_facet k) k t li lj Q := hR
      show wbX11_facet_2 (wpX11_facet (h + k)) (h + k) t li lj Q'
      unfold wbX11_facet_2 at hR ⊢
      exact fun x1 e1 => (ih (b)).2.1 _ _ _ (by omega) g (fun z0 z1 q0 g0 => hQ z0 z1 q0 (hN_mono (by omega) g0)) (hR x1 e1)
theorem ndX11_facet {h b k : Nat} {t : XT} {a1 : Int32} {Q Q' : Int32 → XT → Prop} (hh : 300 ≤ h) (hb : b < 2147483648) (g : hN b t) (hR : wqX11_facet k t a1 Q) (hQ : ∀ r t, Q r t → hN (b) t → Q' r t) : wqX11_facet (h + k) t a1 Q' := (ngX11_facet hh Q Q' k b).1 t _ _ hb g hQ hR
set_option maxHeartbeats 4000000 in
set_option maxRecDepth 100000 in
theorem ngX11_linkOf {h : Nat} (hh : 300 ≤ h) (Q Q' : Int64 → XT → Prop) : ∀ (k b : Nat), (∀ (t : XT) (li : Nat → Int32) (lj : Nat → Int64), b < 2147483648 → hN b t → (∀ r t, Q r t → hN (b) t → Q' r t) → wpX11_linkOf k 0 t li lj Q → wpX11_linkOf (h + k) 0 t li lj Q') ∧ (∀ (t : XT) (li : Nat → Int32) (lj : Nat → Int64), b < 2147483648 → hN b t → (∀ r t, Q r t → hN (b) t → Q' r t) → wpX11_linkOf k 1 t li lj Q → wpX11_linkOf (h + k) 1 t li lj Q') ∧ (∀ (t : XT) (li : Nat → Int32) (lj : Nat → Int64), b < 2147483648 → hN b t → (∀ r t, Q r t → hN (b) t → Q' r t) → wpX11_linkOf k 2 t li lj Q → wpX11_linkOf (h + k) 2 t li lj Q') ∧ (∀ (t : XT) (li : Nat → Int32) (lj : Nat → Int64), b < 2147483648 → hN b t → (∀ r t, Q r t → hN (b) t → Q' r t) → wpX11_linkOf k 3 t li lj Q → wpX11_linkOf (h + k) 3 t li lj Q') := by
  intro k
  induction k with
  | zero => intro b; exact ⟨fun _ _ _ _ _ _ hR => False.elim hR, fun _ _ _ _ _ _ hR => False.elim hR, fun _ _ _ _ _ _ hR => False.elim hR, fun _ _ _ _ _ _ hR => False.elim hR⟩
  | succ k ih =>
    intro b
    refine ⟨?_, ?_, ?_, ?_⟩
    · intro t li lj hb g hQ hR
      have hR : wbX11_linkOf_0 (wpX11_linkOf k) k t li lj Q := hR
      show wbX11_linkOf_0 (wpX11_linkOf (h + k)) (h + k) t li lj Q'
      unfold wbX11_linkOf_0 at hR ⊢
      exact (ih (b)).2.1 _ _ _ (by omega) g (fun z0 z1 q0 g0 => hQ z0 z1 q0 (hN_mono (by omega) g0)) hR
    · intro t li lj hb g hQ hR
      have hR : wbX11_linkOf_1 (wpX11_linkOf k) k t li lj Q := hR
      show wbX11_linkOf_1 (wpX11_linkOf (h + k)) (h + k) t li lj Q'
      unfold wbX11_linkOf_1 at hR ⊢
      exact ⟨fun c1 => hQ _ _ (hR.1 c1) (hN_mono (by omega) g), fun c2 => ⟨(hR.2 c2).1, fun x3 e3 => ⟨((hR.2 c2).2 x3 e3).1, fun x4 e4 => fun x5 e5 => ⟨((((hR.2 c2).2 x3 e3).2 x4 e4) x5 e5).1, fun x6 e6 => ⟨(((((hR.2 c2).2 x3 e3).2 x4 e4) x5 e5).2 x6 e6).1, fun x7 e7 => fun x8 e8 => ⟨fun c9 => (ih (b)).2.2.1 _ _ _ (by omega) g (fun z0 z1 q0 g0 => hQ z0 z1 q0 (hN_mono (by omega) g0)) ((((((((hR.2 c2).2 x3 e3).2 x4 e4) x5 e5).2 x6 e6).2 x7 e7) x8 e8).1 c9), fun c10 => (ih (b)).2.2.1 _ _ _ (by omega) g (fun z0 z1 q0 g0 => hQ z0 z1 q0 (hN_mono (by omega) g0)) ((((((((hR.2 c2).2 x3 e3).2 x4 e4) x5 e5).2 x6 e6).2 x7 e7) x8 e8).2 c10)⟩⟩⟩⟩⟩⟩
    · intro t li lj hb g hQ hR
      have hR : wbX11_linkOf_2 (wpX11_linkOf k) k t li lj Q := hR
      show wbX11_linkOf_2 (wpX11_linkOf (h + k)) (h + k) t li lj Q'
      unfold wbX11_linkOf_2 at hR ⊢
      exact ndX11_number hh (by omega) g hR (fun y1_0 y1_1 h1 g1 => ⟨fun c2 => (ih (b)).2.2.2 _ _ _ (by omega) g1 (fun z0 z1 q0 g0 => hQ z0 z1 q0 (hN_mono (by omega) g0)) (h1.1 c2), fun c3 => ndX11_isThere hh (by omega) g1 (h1.2 c3) (fun y4_0 y4_1 h4 g4 => ⟨fun c5 => (ih (b)).2.2.2 _ _ _ (by omega) g4 (fun z0 z1 q0 g0 => hQ z0 z1 q0 (hN_mono (by omega) g0)) (h4.1 c5), fun c6 => ndX11_isThere hh (by omega) g4 (h4.2 c6) (fun y7_0 y7_1 h7 g7 => ⟨fun c8 => (ih (b)).2.2.2 _ _ _ (by omega) g7 (fun z0 z1 q0 g0 => hQ z0 z1 q0 (hN_mono (by omega) g0)) (h7.1 c8), fun c9 => ndX11_bit (h7.2 c9) (fun y10_0 h10 => fun x11 e11 => (ih (b)).2.2.2 _ _ _ (by omega) g7 (fun z0 z1 q0 g0 => hQ z0 z1 q0 (hN_mono (by omega) g0)) (h10 x11 e11))⟩)⟩)⟩)
    · intro t li lj hb g hQ hR
      have hR : wbX11_linkOf_3 (wpX11_linkOf k) k t li lj Q := hR
      show wbX11_linkOf_3 (wpX11_linkOf (h + k)) (h + k) t li lj Q'
      unfold wbX11_linkOf_3 at hR ⊢
      exact fun x1 e1 => (ih (b)).2.1 _ _ _ (by omega) g (fun z0 z1 q0 g0 => hQ z0 z1 q0 (hN_mono (by omega) g0)) (hR x1 e1)
theorem ndX11_linkOf {h b k : Nat} {t : XT} {a1 : Int32} {Q Q' : Int64 → XT → Prop} (hh : 300 ≤ h) (hb : b < 2147483648) (g : hN b t) (hR : wqX11_linkOf k t a1 Q) (hQ : ∀ r t, Q r t → hN (b) t → Q' r t) : wqX11_linkOf (h + k) t a1 Q' := (ngX11_linkOf hh Q Q' k b).1 t _ _ hb g hQ hR
set_option maxHeartbeats 4000000 in
set_option maxRecDepth 100000 in
theorem ngX9_eulerOf {h : Nat} (hh : 300 ≤ h) (Q Q' : Int32 → XT → Prop) : ∀ (k b : Nat), (∀ (t : XT) (li : Nat → Int32) (lj : Nat → Int64), b < 2147483648 → hN b t → (∀ r t, Q r t → hN (b) t → Q' r t) → wpX9_eulerOf k 0 t li lj Q → wpX9_eulerOf (h + k) 0 t li lj Q') ∧ (∀ (t : XT) (li : Nat → Int32) (lj : Nat → Int64), b < 2147483648 → hN b t → (∀ r t, Q r t → hN (b) t → Q' r t) → wpX9_eulerOf k 1 t li lj Q → wpX9_eulerOf (h + k) 1 t li lj Q') ∧ (∀ (t : XT) (li : Nat → Int32) (lj : Nat → Int64), b < 2147483648 → hN b t → (∀ r t, Q r t → hN (b) t → Q' r t) → wpX9_eulerOf k 2 t li lj Q → wpX9_eulerOf (h + k) 2 t li lj Q') := by
  intro k
  induction k with
  | zero => intro b; exact ⟨fun _ _ _ _ _ _ hR => False.elim hR, fun _ _ _ _ _ _ hR => False.elim hR, fun _ _ _ _ _ _ hR => False.elim hR⟩
  | succ k ih =>
    intro b
    refine ⟨?_, ?_, ?_⟩
    · intro t li lj hb g hQ hR
      have hR : wbX9_eulerOf_0 (wpX9_eulerOf k) k t li lj Q := hR
      show wbX9_eulerOf_0 (wpX9_eulerOf (h + k)) (h + k) t li lj Q'
      unfold wbX9_eulerOf_0 at hR ⊢
      exact (ih (b)).2.1 _ _ _ (by omega) g (fun z0 z1 q0 g0 => hQ z0 z1 q0 (hN_mono (by omega) g0)) hR
    · intro t li lj hb g hQ hR
      have hR : wbX9_eulerOf_1 (wpX9_eulerOf k) k t li lj Q := hR
      show wbX9_eulerOf_1 (wpX9_eulerOf (h + k)) (h + k) t li lj Q'
      unfold wbX9_eulerOf_1 at hR ⊢
      exact ⟨fun c1 => hQ _ _ (hR.1 c1) (hN_mono (by omega) g), fun c2 => ⟨(hR.2 c2).1, fun x3 e3 => fun x4 e4 => ndJ13_bitCount_95d88 (((hR.2 c2).2 x3 e3) x4 e4) (fun y5_0 h5 => fun x6 e6 => ⟨fun c7 => fun x8 e8 => (ih (b)).2.2 _ _ _ (by omega) g (fun z0 z1 q0 g0 => hQ z0 z1 q0 (hN_mono (by omega) g0)) (((h5 x6 e6).1 c7) x8 e8), fun c9 => (ih (b)).2.2 _ _ _ (by omega) g (fun z0 z1 q0 g0 => hQ z0 z1 q0 (hN_mono (by omega) g0)) ((h5 x6 e6).2 c9)⟩)⟩⟩
    · intro t li lj hb g hQ hR
      have hR : wbX9_eulerOf_2 (wpX9_eulerOf k) k t li lj Q := hR
      show wbX9_eulerOf_2 (wpX9_eulerOf (h + k)) (h + k) t li lj Q'
      unfold wbX9_eulerOf_2 at hR ⊢
      exact fun x1 e1 => fun x2 e2 => (ih (b)).2.1 _ _ _ (by omega) g (fun z0 z1 q0 g0 => hQ z0 z1 q0 (hN_mono (by omega) g0)) ((hR x1 e1) x2 e2)
theorem ndX9_eulerOf {h b k : Nat} {t : XT} {a1 : Int64} {Q Q' : Int32 → XT → Prop} (hh : 300 ≤ h) (hb : b < 2147483648) (g : hN b t) (hR : wqX9_eulerOf k t a1 Q) (hQ : ∀ r t, Q r t → hN (b) t → Q' r t) : wqX9_eulerOf (h + k) t a1 Q' := (ngX9_eulerOf hh Q Q' k b).1 t _ _ hb g hQ hR
set_option maxHeartbeats 4000000 in
set_option maxRecDepth 100000 in
theorem ngX11_link {h : Nat} (hh : 300 ≤ h) (Q Q' : Int32 → XT → Prop) : ∀ (k b : Nat), (∀ (t : XT) (li : Nat → Int32) (lj : Nat → Int64), b < 2147483648 → hN b t → (∀ r t, Q r t → hN (b) t → Q' r t) → wpX11_link k 0 t li lj Q → wpX11_link (h + k) 0 t li lj Q') ∧ (∀ (t : XT) (li : Nat → Int32) (lj : Nat → Int64), b < 2147483648 → hN b t → (∀ r t, Q r t → hN (b) t → Q' r t) → wpX11_link k 1 t li lj Q → wpX11_link (h + k) 1 t li lj Q') := by
  intro k
  induction k with
  | zero => intro b; exact ⟨fun _ _ _ _ _ _ hR => False.elim hR, fun _ _ _ _ _ _ hR => False.elim hR⟩
  | succ k ih =>
    intro b
    refine ⟨?_, ?_⟩
    · intro t li lj hb g hQ hR
      have hR : wbX11_link_0 (wpX11_link k) k t li lj Q := hR
      show wbX11_link_0 (wpX11_link (h + k)) (h + k) t li lj Q'
      unfold wbX11_link_0 at hR ⊢
      exact ndX11_isThere hh (by omega) g hR (fun y1_0 y1_1 h1 g1 => ⟨fun c2 => (ih (b)).2 _ _ _ (by omega) g1 (fun z0 z1 q0 g0 => hQ z0 z1 q0 (hN_mono (by omega) g0)) (h1.1 c2), fun c3 => ⟨fun c4 => (ih (b)).2 _ _ _ (by omega) g1 (fun z0 z1 q0 g0 => hQ z0 z1 q0 (hN_mono (by omega) g0)) ((h1.2 c3).1 c4), fun c5 => ⟨fun c6 => ndX11_linkOf hh (by omega) g1 (((h1.2 c3).2 c5).1 c6) (fun y7_0 y7_1 h7 g7 => ⟨fun c8 => ndX9_eulerOf hh (by omega) g7 (h7.1 c8) (fun y9_0 y9_1 h9 g9 => hQ _ _ h9 (hN_mono (by omega) g9)), fun c10 => ndJ13_bitCount_95d88 (h7.2 c10) (fun y11_0 h11 => hQ _ _ h11 (hN_mono (by omega) g7))⟩), fun c12 => (ih (b)).2 _ _ _ (by omega) g1 (fun z0 z1 q0 g0 => hQ z0 z1 q0 (hN_mono (by omega) g0)) (((h1.2 c3).2 c5).2 c12)⟩⟩⟩)
    · intro t li lj hb g hQ hR
      have hR : wbX11_link_1 (wpX11_link k) k t li lj Q := hR
      show wbX11_link_1 (wpX11_link (h + k)) (h + k) t li lj Q'
      unfold wbX11_link_1 at hR ⊢
      exact hQ _ _ hR (hN_mono (by omega) g)
theorem ndX11_link {h b k : Nat} {t : XT} {a1 : Int32} {a2 : Int32} {Q Q' : Int32 → XT → Prop} (hh : 300 ≤ h) (hb : b < 2147483648) (g : hN b t) (hR : wqX11_link k t a1 a2 Q) (hQ : ∀ r t, Q r t → hN (b) t → Q' r t) : wqX11_link (h + k) t a1 a2 Q' := (ngX11_link hh Q Q' k b).1 t _ _ hb g hQ hR
set_option maxHeartbeats 4000000 in
set_option maxRecDepth 100000 in
theorem ngX11_roomAbove {h : Nat} (hh : 300 ≤ h) (Q Q' : Int32 → XT → Prop) : ∀ (k b : Nat), (∀ (t : XT) (li : Nat → Int32) (lj : Nat → Int64), b < 2147483648 → hN b t → (∀ r t, Q r t → hN (b) t → Q' r t) → wpX11_roomAbove k 0 t li lj Q → wpX11_roomAbove (h + k) 0 t li lj Q') ∧ (∀ (t : XT) (li : Nat → Int32) (lj : Nat → Int64), b < 2147483648 → hN b t → (∀ r t, Q r t → hN (b) t → Q' r t) → wpX11_roomAbove k 1 t li lj Q → wpX11_roomAbove (h + k) 1 t li lj Q') ∧ (∀ (t : XT) (li : Nat → Int32) (lj : Nat → Int64), b < 2147483648 → hN b t → (∀ r t, Q r t → hN (b) t → Q' r t) → wpX11_roomAbove k 2 t li lj Q → wpX11_roomAbove (h + k) 2 t li lj Q') := by
  intro k
  induction k with
  | zero => intro b; exact ⟨fun _ _ _ _ _ _ hR => False.elim hR, fun _ _ _ _ _ _ hR => False.elim hR, fun _ _ _ _ _ _ hR => False.elim hR⟩
  | succ k ih =>
    intro b
    refine ⟨?_, ?_, ?_⟩
    · intro t li lj hb g hQ hR
      have hR : wbX11_roomAbove_0 (wpX11_roomAbove k) k t li lj Q := hR
      show wbX11_roomAbove_0 (wpX11_roomAbove (h + k)) (h + k) t li lj Q'
      unfold wbX11_roomAbove_0 at hR ⊢
      exact fun x1 e1 => (ih (b)).2.1 _ _ _ (by omega) g (fun z0 z1 q0 g0 => hQ z0 z1 q0 (hN_mono (by omega) g0)) (hR x1 e1)
    · intro t li lj hb g hQ hR
      have hR : wbX11_roomAbove_1 (wpX11_roomAbove k) k t li lj Q := hR
      show wbX11_roomAbove_1 (wpX11_roomAbove (h + k)) (h + k) t li lj Q'
      unfold wbX11_roomAbove_1 at hR ⊢
      exact ⟨fun c1 => hQ _ _ (hR.1 c1) (hN_mono (by omega) g), fun c2 => ndX11_isIn (hR.2 c2) (fun y3_0 h3 => ⟨fun c4 => (ih (b)).2.2 _ _ _ (by omega) g (fun z0 z1 q0 g0 => hQ z0 z1 q0 (hN_mono (by omega) g0)) (h3.1 c4), fun c5 => ndX6_staysAcyclic hh (by omega) g (h3.2 c5) (fun y6_0 y6_1 h6 g6 => ⟨fun c7 => (ih (b)).2.2 _ _ _ (by omega) g6 (fun z0 z1 q0 g0 => hQ z0 z1 q0 (hN_mono (by omega) g0)) (h6.1 c7), fun c8 => fun x9 e9 => (ih (b)).2.2 _ _ _ (by omega) g6 (fun z0 z1 q0 g0 => hQ z0 z1 q0 (hN_mono (by omega) g0)) ((h6.2 c8) x9 e9)⟩)⟩)⟩
    · intro t li lj hb g hQ hR
      have hR : wbX11_roomAbove_2 (wpX11_roomAbove k) k t li lj Q := hR
      show wbX11_roomAbove_2 (wpX11_roomAbove (h + k)) (h + k) t li lj Q'
      unfold wbX11_roomAbove_2 at hR ⊢
      exact fun x1 e1 => (ih (b)).2.1 _ _ _ (by omega) g (fun z0 z1 q0 g0 => hQ z0 z1 q0 (hN_mono (by omega) g0)) (hR x1 e1)
theorem ndX11_roomAbove {h b k : Nat} {t : XT} {a1 : Int32} {a2 : Int64} {Q Q' : Int32 → XT → Prop} (hh : 300 ≤ h) (hb : b < 2147483648) (g : hN b t) (hR : wqX11_roomAbove k t a1 a2 Q) (hQ : ∀ r t, Q r t → hN (b) t → Q' r t) : wqX11_roomAbove (h + k) t a1 a2 Q' := (ngX11_roomAbove hh Q Q' k b).1 t _ _ hb g hQ hR
set_option maxHeartbeats 4000000 in
set_option maxRecDepth 100000 in
theorem ngX11_room {h : Nat} (hh : 300 ≤ h) (Q Q' : Int32 → XT → Prop) : ∀ (k b : Nat), (∀ (t : XT) (li : Nat → Int32) (lj : Nat → Int64), b < 2147483648 → hN b t → (∀ r t, Q r t → hN (b) t → Q' r t) → wpX11_room k 0 t li lj Q → wpX11_room (h + k) 0 t li lj Q') ∧ (∀ (t : XT) (li : Nat → Int32) (lj : Nat → Int64), b < 2147483648 → hN b t → (∀ r t, Q r t → hN (b) t → Q' r t) → wpX11_room k 1 t li lj Q → wpX11_room (h + k) 1 t li lj Q') ∧ (∀ (t : XT) (li : Nat → Int32) (lj : Nat → Int64), b < 2147483648 → hN b t → (∀ r t, Q r t → hN (b) t → Q' r t) → wpX11_room k 2 t li lj Q → wpX11_room (h + k) 2 t li lj Q') := by
  intro k
  induction k with
  | zero => intro b; exact ⟨fun _ _ _ _ _ _ hR => False.elim hR, fun _ _ _ _ _ _ hR => False.elim hR, fun _ _ _ _ _ _ hR => False.elim hR⟩
  | succ k ih =>
    intro b
    refine ⟨?_, ?_, ?_⟩
    · intro t li lj hb g hQ hR
      have hR : wbX11_room_0 (wpX11_room k) k t li lj Q := hR
      show wbX11_room_0 (wpX11_room (h + k)) (h + k) t li lj Q'
      unfold wbX11_room_0 at hR ⊢
      exact ndX11_isDim hR (fun y1_0 h1 => ⟨fun c2 => ndX6_unpaired hh (by omega) g (h1.1 c2) (fun y3_0 y3_1 h3 g3 => (ih (b)).2.1 _ _ _ (by omega) g3 (fun z0 z1 q0 g0 => hQ z0 z1 q0 (hN_mono (by omega) g0)) h3), fun c4 => hQ _ _ (h1.2 c4) (hN_mono (by omega) g)⟩)
    · intro t li lj hb g hQ hR
      have hR : wbX11_room_1 (wpX11_room k) k t li lj Q := hR
      show wbX11_room_1 (wpX11_room (h + k)) (h + k) t li lj Q'
      unfold wbX11_room_1 at hR ⊢
      exact ⟨fun c1 => hQ _ _ (hR.1 c1) (hN_mono (by omega) g), fun c2 => ndX11_isIn (hR.2 c2) (fun y3_0 h3 => ⟨fun c4 => (ih (b)).2.2 _ _ _ (by omega) g (fun z0 z1 q0 g0 => hQ z0 z1 q0 (hN_mono (by omega) g0)) (h3.1 c4), fun c5 => ⟨(h3.2 c5).1, fun x6 e6 => ⟨fun c7 => (ih (b)).2.2 _ _ _ (by omega) g (fun z0 z1 q0 g0 => hQ z0 z1 q0 (hN_mono (by omega) g0)) (((h3.2 c5).2 x6 e6).1 c7), fun c8 => ⟨(((h3.2 c5).2 x6 e6).2 c8).1, fun x9 e9 => fun x10 e10 => ndX11_roomAbove hh (by omega) g (((((h3.2 c5).2 x6 e6).2 c8).2 x9 e9) x10 e10) (fun y11_0 y11_1 h11 g11 => fun x12 e12 => (ih (b)).2.2 _ _ _ (by omega) g11 (fun z0 z1 q0 g0 => hQ z0 z1 q0 (hN_mono (by omega) g0)) (h11 x12 e12))⟩⟩⟩⟩)⟩
    · intro t li lj hb g hQ hR
      have hR : wbX11_room_2 (wpX11_room k) k t li lj Q := hR
      show wbX11_room_2 (wpX11_room (h + k)) (h + k) t li lj Q'
      unfold wbX11_room_2 at hR ⊢
      exact fun x1 e1 => (ih (b)).2.1 _ _ _ (by omega) g (fun z0 z1 q0 g0 => hQ z0 z1 q0 (hN_mono (by omega) g0)) (hR x1 e1)
theorem ndX11_room {h b k : Nat} {t : XT} {a1 : Int32} {Q Q' : Int32 → XT → Prop} (hh : 300 ≤ h) (hb : b < 2147483648) (g : hN b t) (hR : wqX11_room k t a1 Q) (hQ : ∀ r t, Q r t → hN (b) t → Q' r t) : wqX11_room (h + k) t a1 Q' := (ngX11_room hh Q Q' k b).1 t _ _ hb g hQ hR
set_option maxHeartbeats 4000000 in
set_option maxRecDepth 100000 in
theorem ngX11_draws {h : Nat} (hh : 300 ≤ h) (Q Q' : Int32 → XT → Prop) : ∀ (k b : Nat), (∀ (t : XT) (li : Nat → Int32) (lj : Nat → Int64), b < 2147483648 → hN b t → (∀ r t, Q r t → hN (b) t → Q' r t) → wpX11_draws k 0 t li lj Q → wpX11_draws (h + k) 0 t li lj Q') := by
  intro k
  induction k with
  | zero => intro b; exact fun _ _ _ _ _ _ hR => False.elim hR
  | succ k ih =>
    intro b
    intro t li lj hb g hQ hR
    have hR : wbX11_draws_0 (wpX11_draws k) k t li lj Q := hR
    show wbX11_draws_0 (wpX11_draws (h + k)) (h + k) t li lj Q'
    unfold wbX11_draws_0 at hR ⊢
    exact ⟨fun c1 => fun x2 e2 => have g2 : hN (b) x2 := (by rw [e2]; exact hN_I (by decide) (by decide) (by decide) (by decide) g); hQ _ _ ((hR.1 c1) x2 e2) (hN_mono (by omega) g2), fun c3 => hQ _ _ (hR.2 c3) (hN_mono (by omega) g)⟩
theorem ndX11_draws {h b k : Nat} {t : XT} {a1 : Int32} {Q Q' : Int32 → XT → Prop} (hh : 300 ≤ h) (hb : b < 2147483648) (g : hN b t) (hR : wqX11_draws k t a1 Q) (hQ : ∀ r t, Q r t → hN (b) t → Q' r t) : wqX11_draws (h + k) t a1 Q' := (ngX11_draws hh Q Q' k b) t _ _ hb g hQ hR
set_option maxHeartbeats 4000000 in
set_option maxRecDepth 100000 in
theorem ngX9_greatestDim {h : Nat} (hh : 300 ≤ h) (Q Q' : Int32 → XT → Prop) : ∀ (k b : Nat), (∀ (t : XT) (li : Nat → Int32) (lj : Nat → Int64), b < 2147483648 → hN b t → (∀ r t, Q r t → hN (b) t → Q' r t) → wpX9_greatestDim k 0 t li lj Q → wpX9_greatestDim (h + k) 0 t li lj Q') ∧ (∀ (t : XT) (li : Nat → Int32) (lj : Nat → Int64), b < 2147483648 → hN b t → (∀ r t, Q r t → hN (b) t → Q' r t) → wpX9_greatestDim k 1 t li lj Q → wpX9_greatestDim (h + k) 1 t li lj Q') ∧ (∀ (t : XT) (li : Nat → Int32) (lj : Nat → Int64), b < 2147483648 → hN b t → (∀ r t, Q r t → hN (b) t → Q' r t) → wpX9_greatestDim k 2 t li lj Q → wpX9_greatestDim (h + k) 2 t li lj Q') := by
  intro k
  induction k with
  | zero => intro b; exact ⟨fun _ _ _ _ _ _ hR => False.elim hR, fun _ _ _ _ _ _ hR => False.elim hR, fun _ _ _ _ _ _ hR => False.elim hR⟩
  | succ k ih =>
    intro b
    refine ⟨?_, ?_, ?_⟩
    · intro t li lj hb g hQ hR
      have hR : wbX9_greatestDim_0 (wpX9_greatestDim k) k t li lj Q := hR
      show wbX9_greatestDim_0 (wpX9_greatestDim (h + k)) (h + k) t li lj Q'
      unfold wbX9_greatestDim_0 at hR ⊢
      exact (ih (b)).2.1 _ _ _ (by omega) g (fun z0 z1 q0 g0 => hQ z0 z1 q0 (hN_mono (by omega) g0)) hR
    · intro t li lj hb g hQ hR
      have hR : wbX9_greatestDim_1 (wpX9_greatestDim k) k t li lj Q := hR
      show wbX9_greatestDim_1 (wpX9_greatestDim (h + k)) (h + k) t li lj Q'
      unfold wbX9_greatestDim_1 at hR ⊢
      exact ⟨fun c1 => hQ _ _ (hR.1 c1) (hN_mono (by omega) g), fun c2 => ⟨(hR.2 c2).1, fun x3 e3 => fun x4 e4 => fun x5 e5 => ⟨fun c6 => (ih (b)).2.2 _ _ _ (by omega) g (fun z0 z1 q0 g0 => hQ z0 z1 q0 (hN_mono (by omega) g0)) (((((hR.2 c2).2 x3 e3) x4 e4) x5 e5).1 c6), fun c7 => (ih (b)).2.2 _ _ _ (by omega) g (fun z0 z1 q0 g0 => hQ z0 z1 q0 (hN_mono (by omega) g0)) (((((hR.2 c2).2 x3 e3) x4 e4) x5 e5).2 c7)⟩⟩⟩
    · intro t li lj hb g hQ hR
      have hR : wbX9_greatestDim_2 (wpX9_greatestDim k) k t li lj Q := hR
      show wbX9_greatestDim_2 (wpX9_greatestDim (h + k)) (h + k) t li lj Q'
      unfold wbX9_greatestDim_2 at hR ⊢
      exact fun x1 e1 => (ih (b)).2.1 _ _ _ (by omega) g (fun z0 z1 q0 g0 => hQ z0 z1 q0 (hN_mono (by omega) g0)) (hR x1 e1)
theorem ndX9_greatestDim {h b k : Nat} {t : XT} {a1 : Int64} {Q Q' : Int32 → XT → Prop} (hh : 300 ≤ h) (hb : b < 2147483648) (g : hN b t) (hR : wqX9_greatestDim k t a1 Q) (hQ : ∀ r t, Q r t → hN (b) t → Q' r t) : wqX9_greatestDim (h + k) t a1 Q' := (ngX9_greatestDim hh Q Q' k b).1 t _ _ hb g hQ hR
set_option maxHeartbeats 4000000 in
set_option maxRecDepth 100000 in
theorem ngX7_greatest {h : Nat} (hh : 300 ≤ h) (Q Q' : Int64 → XT → Prop) : ∀ (k b : Nat), (∀ (t : XT) (li : Nat → Int32) (lj : Nat → Int64), b < 2147483648 → hN b t → (∀ r t, Q r t → hN (b) t → Q' r t) → wpX7_greatest k 0 t li lj Q → wpX7_greatest (h + k) 0 t li lj Q') := by
  intro k
  induction k with
  | zero => intro b; exact fun _ _ _ _ _ _ hR => False.elim hR
  | succ k ih =>
    intro b
    intro t li lj hb g hQ hR
    have hR : wbX7_greatest_0 (wpX7_greatest k) k t li lj Q := hR
    show wbX7_greatest_0 (wpX7_greatest (h + k)) (h + k) t li lj Q'
    unfold wbX7_greatest_0 at hR ⊢
    exact ndX9_greatestDim hh (by omega) g hR (fun y1_0 y1_1 h1 g1 => ndX11_isDim h1 (fun y2_0 h2 => ⟨fun c3 => hQ _ _ (h2.1 c3) (hN_mono (by omega) g1), fun c4 => ⟨(h2.2 c4).1, fun x5 e5 => fun x6 e6 => hQ _ _ (((h2.2 c4).2 x5 e5) x6 e6) (hN_mono (by omega) g1)⟩⟩))
theorem ndX7_greatest {h b k : Nat} {t : XT}  {Q Q' : Int64 → XT → Prop} (hh : 300 ≤ h) (hb : b < 2147483648) (g : hN b t) (hR : wqX7_greatest k t  Q) (hQ : ∀ r t, Q r t → hN (b) t → Q' r t) : wqX7_greatest (h + k) t  Q' := (ngX7_greatest hh Q Q' k b) t _ _ hb g hQ hR
set_option maxHeartbeats 4000000 in
set_option maxRecDepth 100000 in
theorem ngX11_drawFrom {h : Nat} (hh : 300 ≤ h) (Q Q' : Int32 → XT → Prop) : ∀ (k b : Nat), (∀ (t : XT) (li : Nat → Int32) (lj : Nat → Int64), b < 2147483648 → hN b t → (∀ r t, Q r t → hN (b) t → Q' r t) → wpX11_drawFrom k 0 t li lj Q → wpX11_drawFrom (h + k) 0 t li lj Q') := by
  intro k
  induction k with
  | zero => intro b; exact fun _ _ _ _ _ _ hR => False.elim hR
  | succ k ih =>
    intro b
    intro t li lj hb g hQ hR
    have hR : wbX11_drawFrom_0 (wpX11_drawFrom k) k t li lj Q := hR
    show wbX11_drawFrom_0 (wpX11_drawFrom (h + k)) (h + k) t li lj Q'
    unfold wbX11_drawFrom_0 at hR ⊢
    exact ndJ13_bitCount_95d88 hR (fun y1_0 h1 => fun x2 e2 => fun x3 e3 => fun x4 e4 => ⟨(((h1 x2 e2) x3 e3) x4 e4).1, fun x5 e5 => fun x6 e6 => fun x7 e7 => have g7 : hN (b) x7 := (by rw [e7]; exact hN_I (by decide) (by decide) (by decide) (by decide) g); ⟨fun c8 => hQ _ _ (((((((h1 x2 e2) x3 e3) x4 e4).2 x5 e5) x6 e6) x7 e7).1 c8) (hN_mono (by omega) g7), fun c9 => ⟨(((((((h1 x2 e2) x3 e3) x4 e4).2 x5 e5) x6 e6) x7 e7).2 c9).1, fun x10 e10 => ⟨((((((((h1 x2 e2) x3 e3) x4 e4).2 x5 e5) x6 e6) x7 e7).2 c9).2 x10 e10).1, fun x11 e11 => ndX11_nth (((((((((h1 x2 e2) x3 e3) x4 e4).2 x5 e5) x6 e6) x7 e7).2 c9).2 x10 e10).2 x11 e11) (fun y12_0 h12 => hQ _ _ h12 (hN_mono (by omega) g7))⟩⟩⟩⟩)
theorem ndX11_drawFrom {h b k : Nat} {t : XT} {a1 : Int64} {Q Q' : Int32 → XT → Prop} (hh : 300 ≤ h) (hb : b < 2147483648) (g : hN b t) (hR : wqX11_drawFrom k t a1 Q) (hQ : ∀ r t, Q r t → hN (b) t → Q' r t) : wqX11_drawFrom (h + k) t a1 Q' := (ngX11_drawFrom hh Q Q' k b) t _ _ hb g hQ hR
set_option maxHeartbeats 4000000 in
set_option maxRecDepth 100000 in
theorem ngX11_peelByDraws {h : Nat} (hh : 300 ≤ h) (Q Q' : Int32 → XT → Prop) : ∀ (k b : Nat), (∀ (t : XT) (li : Nat → Int32) (lj : Nat → Int64), b < 2147483648 → hN b t → (∀ r t, Q r t → hN (b) t → Q' r t) → wpX11_peelByDraws k 0 t li lj Q → wpX11_peelByDraws (h + k) 0 t li lj Q') ∧ (∀ (t : XT) (li : Nat → Int32) (lj : Nat → Int64), b < 2147483648 → hN b t → (∀ r t, Q r t → hN (b) t → Q' r t) → wpX11_peelByDraws k 1 t li lj Q → wpX11_peelByDraws (h + k) 1 t li lj Q') ∧ (∀ (t : XT) (li : Nat → Int32) (lj : Nat → Int64), b < 2147483648 → hN b t → (∀ r t, Q r t → hN (b) t → Q' r t) → wpX11_peelByDraws k 2 t li lj Q → wpX11_peelByDraws (h + k) 2 t li lj Q') ∧ (∀ (t : XT) (li : Nat → Int32) (lj : Nat → Int64), b < 2147483648 → hN b t → (∀ r t, Q r t → hN (b) t → Q' r t) → wpX11_peelByDraws k 3 t li lj Q → wpX11_peelByDraws (h + k) 3 t li lj Q') := by
  intro k
  induction k with
  | zero => intro b; exact ⟨fun _ _ _ _ _ _ hR => False.elim hR, fun _ _ _ _ _ _ hR => False.elim hR, fun _ _ _ _ _ _ hR => False.elim hR, fun _ _ _ _ _ _ hR => False.elim hR⟩
  | succ k ih =>
    intro b
    refine ⟨?_, ?_, ?_, ?_⟩
    · intro t li lj hb g hQ hR
      have hR : wbX11_peelByDraws_0 (wpX11_peelByDraws k) k t li lj Q := hR
      show wbX11_peelByDraws_0 (wpX11_peelByDraws (h + k)) (h + k) t li lj Q'
      unfold wbX11_peelByDraws_0 at hR ⊢
      exact ndX7_begin hh (by omega) g hR (fun y1_0 h1 g1 => (ih (b)).2.1 _ _ _ (by omega) g1 (fun z0 z1 q0 g0 => hQ z0 z1 q0 (hN_mono (by omega) g0)) h1)
    · intro t li lj hb g hQ hR
      have hR : wbX11_peelByDraws_1 (wpX11_peelByDraws k) k t li lj Q := hR
      show wbX11_peelByDraws_1 (wpX11_peelByDraws (h + k)) (h + k) t li lj Q'
      unfold wbX11_peelByDraws_1 at hR ⊢
      exact ⟨fun c1 => (ih (b)).2.2.2 _ _ _ (by omega) g (fun z0 z1 q0 g0 => hQ z0 z1 q0 (hN_mono (by omega) g0)) (hR.1 c1), fun c2 => fun x3 e3 => ⟨fun c4 => (ih (b)).2.2.2 _ _ _ (by omega) g (fun z0 z1 q0 g0 => hQ z0 z1 q0 (hN_mono (by omega) g0)) (((hR.2 c2) x3 e3).1 c4), fun c5 => fun x6 e6 => ⟨fun c7 => ndX7_greatest hh (by omega) g (((((hR.2 c2) x3 e3).2 c5) x6 e6).1 c7) (fun y8_0 y8_1 h8 g8 => ndX11_drawFrom hh (by omega) g8 h8 (fun y9_0 y9_1 h9 g9 => ndX7_close hh (by omega) g9 h9 (fun y10_0 h10 g10 => fun x11 e11 => (ih (b)).2.2.1 _ _ _ (by omega) g10 (fun z0 z1 q0 g0 => hQ z0 z1 q0 (hN_mono (by omega) g0)) (h10 x11 e11)))), fun c12 => ndX11_drawFrom hh (by omega) g (((((hR.2 c2) x3 e3).2 c5) x6 e6).2 c12) (fun y13_0 y13_1 h13 g13 => ndX7_above hh (by omega) g13 h13 (fun y14_0 y14_1 h14 g14 => ndX7_close hh (by omega) g14 h14 (fun y15_0 h15 g15 => ndX7_close hh (by omega) g15 h15 (fun y16_0 h16 g16 => (ih (b)).2.2.1 _ _ _ (by omega) g16 (fun z0 z1 q0 g0 => hQ z0 z1 q0 (hN_mono (by omega) g0)) h16))))⟩⟩⟩
    · intro t li lj hb g hQ hR
      have hR : wbX11_peelByDraws_2 (wpX11_peelByDraws k) k t li lj Q := hR
      show wbX11_peelByDraws_2 (wpX11_peelByDraws (h + k)) (h + k) t li lj Q'
      unfold wbX11_peelByDraws_2 at hR ⊢
      exact fun x1 e1 => (ih (b)).2.1 _ _ _ (by omega) g (fun z0 z1 q0 g0 => hQ z0 z1 q0 (hN_mono (by omega) g0)) (hR x1 e1)
    · intro t li lj hb g hQ hR
      have hR : wbX11_peelByDraws_3 (wpX11_peelByDraws k) k t li lj Q := hR
      show wbX11_peelByDraws_3 (wpX11_peelByDraws (h + k)) (h + k) t li lj Q'
      unfold wbX11_peelByDraws_3 at hR ⊢
      exact hQ _ _ hR (hN_mono (by omega) g)
theorem ndX11_peelByDraws {h b k : Nat} {t : XT}  {Q Q' : Int32 → XT → Prop} (hh : 300 ≤ h) (hb : b < 2147483648) (g : hN b t) (hR : wqX11_peelByDraws k t  Q) (hQ : ∀ r t, Q r t → hN (b) t → Q' r t) : wqX11_peelByDraws (h + k) t  Q' := (ngX11_peelByDraws hh Q Q' k b).1 t _ _ hb g hQ hR
set_option maxHeartbeats 4000000 in
set_option maxRecDepth 100000 in
theorem ngX11_drawn {h : Nat} (hh : 300 ≤ h) (Q Q' : Int32 → XT → Prop) : ∀ (k b : Nat), (∀ (t : XT) (li : Nat → Int32) (lj : Nat → Int64), b < 2147483648 → hN b t → (∀ r t, Q r t → hN (b) t → Q' r t) → wpX11_drawn k 0 t li lj Q → wpX11_drawn (h + k) 0 t li lj Q') ∧ (∀ (t : XT) (li : Nat → Int32) (lj : Nat → Int64), b < 2147483648 → hN b t → (∀ r t, Q r t → hN (b) t → Q' r t) → wpX11_drawn k 1 t li lj Q → wpX11_drawn (h + k) 1 t li lj Q') ∧ (∀ (t : XT) (li : Nat → Int32) (lj : Nat → Int64), b < 2147483648 → hN b t → (∀ r t, Q r t → hN (b) t → Q' r t) → wpX11_drawn k 2 t li lj Q → wpX11_drawn (h + k) 2 t li lj Q') ∧ (∀ (t : XT) (li : Nat → Int32) (lj : Nat → Int64), b < 2147483648 → hN b t → (∀ r t, Q r t → hN (b) t → Q' r t) → wpX11_drawn k 3 t li lj Q → wpX11_drawn (h + k) 3 t li lj Q') ∧ (∀ (t : XT) (li : Nat → Int32) (lj : Nat → Int64), b < 2147483648 → hN b t → (∀ r t, Q r t → hN (b) t → Q' r t) → wpX11_drawn k 4 t li lj Q → wpX11_drawn (h + k) 4 t li lj Q') := by
  intro k
  induction k with
  | zero => intro b; exact ⟨fun _ _ _ _ _ _ hR => False.elim hR, fun _ _ _ _ _ _ hR => False.elim hR, fun _ _ _ _ _ _ hR => False.elim hR, fun _ _ _ _ _ _ hR => False.elim hR, fun _ _ _ _ _ _ hR => False.elim hR⟩
  | succ k ih =>
    intro b
    refine ⟨?_, ?_, ?_, ?_, ?_⟩
    · intro t li lj hb g hQ hR
      have hR : wbX11_drawn_0 (wpX11_drawn k) k t li lj Q := hR
      show wbX11_drawn_0 (wpX11_drawn (h + k)) (h + k) t li lj Q'
      unfold wbX11_drawn_0 at hR ⊢
      exact ⟨fun c1 => (ih (b)).2.1 _ _ _ (by omega) g (fun z0 z1 q0 g0 => hQ z0 z1 q0 (hN_mono (by omega) g0)) (hR.1 c1), fun c2 => ⟨fun c3 => (ih (b)).2.1 _ _ _ (by omega) g (fun z0 z1 q0 g0 => hQ z0 z1 q0 (hN_mono (by omega) g0)) ((hR.2 c2).1 c3), fun c4 => ⟨fun c5 => (ih (b)).2.1 _ _ _ (by omega) g (fun z0 z1 q0 g0 => hQ z0 z1 q0 (hN_mono (by omega) g0)) (((hR.2 c2).2 c4).1 c5), fun c6 => ⟨fun c7 => (ih (b)).2.1 _ _ _ (by omega) g (fun z0 z1 q0 g0 => hQ z0 z1 q0 (hN_mono (by omega) g0)) ((((hR.2 c2).2 c4).2 c6).1 c7), fun c8 => ⟨fun c9 => (ih (b)).2.2.1 _ _ _ (by omega) g (fun z0 z1 q0 g0 => hQ z0 z1 q0 (hN_mono (by omega) g0)) (((((hR.2 c2).2 c4).2 c6).2 c8).1 c9), fun c10 => (ih (b)).2.1 _ _ _ (by omega) g (fun z0 z1 q0 g0 => hQ z0 z1 q0 (hN_mono (by omega) g0)) (((((hR.2 c2).2 c4).2 c6).2 c8).2 c10)⟩⟩⟩⟩⟩
    · intro t li lj hb g hQ hR
      have hR : wbX11_drawn_1 (wpX11_drawn k) k t li lj Q := hR
      show wbX11_drawn_1 (wpX11_drawn (h + k)) (h + k) t li lj Q'
      unfold wbX11_drawn_1 at hR ⊢
      exact hQ _ _ hR (hN_mono (by omega) g)
    · intro t li lj hb g hQ hR
      have hR : wbX11_drawn_2 (wpX11_drawn k) k t li lj Q := hR
      show wbX11_drawn_2 (wpX11_drawn (h + k)) (h + k) t li lj Q'
      unfold wbX11_drawn_2 at hR ⊢
      exact ⟨fun c1 => fun x2 e2 => have g2 : hN (b) x2 := (by rw [e2]; exact hN_I (by decide) (by decide) (by decide) (by decide) g); ⟨fun c3 => ⟨fun c4 => hQ _ _ ((((hR.1 c1) x2 e2).1 c3).1 c4) (hN_mono (by omega) g2), fun c5 => hQ _ _ ((((hR.1 c1) x2 e2).1 c3).2 c5) (hN_mono (by omega) g2)⟩, fun c6 => hQ _ _ (((hR.1 c1) x2 e2).2 c6) (hN_mono (by omega) g2)⟩, fun c7 => ndX11_peelByDraws hh (by omega) g (hR.2 c7) (fun y8_0 y8_1 h8 g8 => fun x9 e9 => ⟨fun c10 => (ih (b)).2.2.2.1 _ _ _ (by omega) g8 (fun z0 z1 q0 g0 => hQ z0 z1 q0 (hN_mono (by omega) g0)) ((h8 x9 e9).1 c10), fun c11 => (ih (b)).2.2.2.1 _ _ _ (by omega) g8 (fun z0 z1 q0 g0 => hQ z0 z1 q0 (hN_mono (by omega) g0)) ((h8 x9 e9).2 c11)⟩)⟩
    · intro t li lj hb g hQ hR
      have hR : wbX11_drawn_3 (wpX11_drawn k) k t li lj Q := hR
      show wbX11_drawn_3 (wpX11_drawn (h + k)) (h + k) t li lj Q'
      unfold wbX11_drawn_3 at hR ⊢
      exact ⟨fun c1 => (ih (b)).2.2.2.2 _ _ _ (by omega) g (fun z0 z1 q0 g0 => hQ z0 z1 q0 (hN_mono (by omega) g0)) (hR.1 c1), fun c2 => fun x3 e3 => (ih (b)).2.2.2.2 _ _ _ (by omega) g (fun z0 z1 q0 g0 => hQ z0 z1 q0 (hN_mono (by omega) g0)) ((hR.2 c2) x3 e3)⟩
    · intro t li lj hb g hQ hR
      have hR : wbX11_drawn_4 (wpX11_drawn k) k t li lj Q := hR
      show wbX11_drawn_4 (wpX11_drawn (h + k)) (h + k) t li lj Q'
      unfold wbX11_drawn_4 at hR ⊢
      exact fun x1 e1 => (ih (b)).2.2.1 _ _ _ (by omega) g (fun z0 z1 q0 g0 => hQ z0 z1 q0 (hN_mono (by omega) g0)) (hR x1 e1)
theorem ndX11_drawn {h b k : Nat} {t : XT} {a1 : Int32} {a2 : Int32} {Q Q' : Int32 → XT → Prop} (hh : 300 ≤ h) (hb : b < 2147483648) (g : hN b t) (hR : wqX11_drawn k t a1 a2 Q) (hQ : ∀ r t, Q r t → hN (b) t → Q' r t) : wqX11_drawn (h + k) t a1 a2 Q' := (ngX11_drawn hh Q Q' k b).1 t _ _ hb g hQ hR
set_option maxHeartbeats 4000000 in
set_option maxRecDepth 100000 in
theorem ngX2_upTo {h : Nat} (hh : 300 ≤ h) (Q Q' : Int64 → XT → Prop) : ∀ (k b : Nat), (∀ (t : XT) (li : Nat → Int32) (lj : Nat → Int64), b < 2147483648 → hN b t → (∀ r t, Q r t → hN (b) t → Q' r t) → wpX2_upTo k 0 t li lj Q → wpX2_upTo (h + k) 0 t li lj Q') ∧ (∀ (t : XT) (li : Nat → Int32) (lj : Nat → Int64), b < 2147483648 → hN b t → (∀ r t, Q r t → hN (b) t → Q' r t) → wpX2_upTo k 1 t li lj Q → wpX2_upTo (h + k) 1 t li lj Q') ∧ (∀ (t : XT) (li : Nat → Int32) (lj : Nat → Int64), b < 2147483648 → hN b t → (∀ r t, Q r t → hN (b) t → Q' r t) → wpX2_upTo k 2 t li lj Q → wpX2_upTo (h + k) 2 t li lj Q') := by
  intro k
  induction k with
  | zero => intro b; exact ⟨fun _ _ _ _ _ _ hR => False.elim hR, fun _ _ _ _ _ _ hR => False.elim hR, fun _ _ _ _ _ _ hR => False.elim hR⟩
  | succ k ih =>
    intro b
    refine ⟨?_, ?_, ?_⟩
    · intro t li lj hb g hQ hR
      have hR : wbX2_upTo_0 (wpX2_upTo k) k t li lj Q := hR
      show wbX2_upTo_0 (wpX2_upTo (h + k)) (h + k) t li lj Q'
      unfold wbX2_upTo_0 at hR ⊢
      exact ndX2_measure hh (by omega) g hR (fun y1_0 h1 g1 => (ih (b)).2.1 _ _ _ (by omega) g1 (fun z0 z1 q0 g0 => hQ z0 z1 q0 (hN_mono (by omega) g0)) h1)
    · intro t li lj hb g hQ hR
      have hR : wbX2_upTo_1 (wpX2_upTo k) k t li lj Q := hR
      show wbX2_upTo_1 (wpX2_upTo (h + k)) (h + k) t li lj Q'
      unfold wbX2_upTo_1 at hR ⊢
      exact ⟨fun c1 => hQ _ _ (hR.1 c1) (hN_mono (by omega) g), fun c2 => ⟨(hR.2 c2).1, fun x3 e3 => ⟨((hR.2 c2).2 x3 e3).1, fun x4 e4 => ⟨fun c5 => (ih (b)).2.2 _ _ _ (by omega) g (fun z0 z1 q0 g0 => hQ z0 z1 q0 (hN_mono (by omega) g0)) ((((hR.2 c2).2 x3 e3).2 x4 e4).1 c5), fun c6 => ⟨((((hR.2 c2).2 x3 e3).2 x4 e4).2 c6).1, fun x7 e7 => ndX11_bit (((((hR.2 c2).2 x3 e3).2 x4 e4).2 c6).2 x7 e7) (fun y8_0 h8 => fun x9 e9 => (ih (b)).2.2 _ _ _ (by omega) g (fun z0 z1 q0 g0 => hQ z0 z1 q0 (hN_mono (by omega) g0)) (h8 x9 e9))⟩⟩⟩⟩⟩
    · intro t li lj hb g hQ hR
      have hR : wbX2_upTo_2 (wpX2_upTo k) k t li lj Q := hR
      show wbX2_upTo_2 (wpX2_upTo (h + k)) (h + k) t li lj Q'
      unfold wbX2_upTo_2 at hR ⊢
      exact fun x1 e1 => (ih (b)).2.1 _ _ _ (by omega) g (fun z0 z1 q0 g0 => hQ z0 z1 q0 (hN_mono (by omega) g0)) (hR x1 e1)
theorem ndX2_upTo {h b k : Nat} {t : XT} {a1 : Int32} {Q Q' : Int64 → XT → Prop} (hh : 300 ≤ h) (hb : b < 2147483648) (g : hN b t) (hR : wqX2_upTo k t a1 Q) (hQ : ∀ r t, Q r t → hN (b) t → Q' r t) : wqX2_upTo (h + k) t a1 Q' := (ngX2_upTo hh Q Q' k b).1 t _ _ hb g hQ hR
