set_option maxHeartbeats 4000000 in
set_option maxRecDepth 100000 in
theorem ngX11_through {h : Nat} (hh : 300 ≤ h) (Q Q' : Int64 → XT → Prop) : ∀ (k b : Nat), (∀ (t : XT) (li : Nat → Int32) (lj : Nat → Int64), b < 2147483648 → hN b t → (∀ r t, Q r t → hN (b) t → Q' r t) → wpX11_through k 0 t li lj Q → wpX11_through (h + k) 0 t li lj Q') ∧ (∀ (t : XT) (li : Nat → Int32) (lj : Nat → Int64), b < 2147483648 → hN b t → (∀ r t, Q r t → hN (b) t → Q' r t) → wpX11_through k 1 t li lj Q → wpX11_through (h + k) 1 t li lj Q') := by
  intro k
  induction k with
  | zero => intro b; exact ⟨fun _ _ _ _ _ _ hR => False.elim hR, fun _ _ _ _ _ _ hR => False.elim hR⟩
  | succ k ih =>
    intro b
    refine ⟨?_, ?_⟩
    · intro t li lj hb g hQ hR
      have hR : wbX11_through_0 (wpX11_through k) k t li lj Q := hR
      show wbX11_through_0 (wpX11_through (h + k)) (h + k) t li lj Q'
      unfold wbX11_through_0 at hR ⊢
      exact ndX11_areEnds hh (by omega) g hR (fun y1_0 y1_1 h1 g1 => ⟨fun c2 => (ih (b)).2 _ _ _ (by omega) g1 (fun z0 z1 q0 g0 => hQ z0 z1 q0 (hN_mono (by omega) g0)) (h1.1 c2), fun c3 => ndX11_isThere hh (by omega) g1 (h1.2 c3) (fun y4_0 y4_1 h4 g4 => ⟨fun c5 => ndX1_start hh (by omega) g4 (h4.1 c5) (fun y6_0 h6 g6 => ⟨h6.1, fun x7 e7 => ndX1_pour hh (by omega) g6 (h6.2 x7 e7) (fun y8_0 h8 g8 => ndX1_countWays hh (by omega) g8 h8 (fun y9_0 y9_1 h9 g9 => ⟨h9.1, fun x10 e10 => ⟨(h9.2 x10 e10).1, fun x11 e11 => fun x12 e12 => hQ _ _ (((h9.2 x10 e10).2 x11 e11) x12 e12) (hN_mono (by omega) g9)⟩⟩))⟩), fun c13 => (ih (b)).2 _ _ _ (by omega) g4 (fun z0 z1 q0 g0 => hQ z0 z1 q0 (hN_mono (by omega) g0)) (h4.2 c13)⟩)⟩)
    · intro t li lj hb g hQ hR
      have hR : wbX11_through_1 (wpX11_through k) k t li lj Q := hR
      show wbX11_through_1 (wpX11_through (h + k)) (h + k) t li lj Q'
      unfold wbX11_through_1 at hR ⊢
      exact hQ _ _ hR (hN_mono (by omega) g)
theorem ndX11_through {h b k : Nat} {t : XT} {a1 : Int32} {a2 : Int32} {a3 : Int32} {Q Q' : Int64 → XT → Prop} (hh : 300 ≤ h) (hb : b < 2147483648) (g : hN b t) (hR : wqX11_through k t a1 a2 a3 Q) (hQ : ∀ r t, Q r t → hN (b) t → Q' r t) : wqX11_through (h + k) t a1 a2 a3 Q' := (ngX11_through hh Q Q' k b).1 t _ _ hb g hQ hR
set_option maxHeartbeats 4000000 in
set_option maxRecDepth 100000 in
theorem ngX1_holdOnly {h : Nat} (hh : 300 ≤ h) (Q Q' : XT → Prop) : ∀ (k b : Nat), (∀ (t : XT) (li : Nat → Int32) (lj : Nat → Int64), b < 2147483648 → hN b t → (∀ t, Q t → hN (b) t → Q' t) → wpX1_holdOnly k 0 t li lj Q → wpX1_holdOnly (h + k) 0 t li lj Q') ∧ (∀ (t : XT) (li : Nat → Int32) (lj : Nat → Int64), b < 2147483648 → hN b t → (∀ t, Q t → hN (b) t → Q' t) → wpX1_holdOnly k 1 t li lj Q → wpX1_holdOnly (h + k) 1 t li lj Q') ∧ (∀ (t : XT) (li : Nat → Int32) (lj : Nat → Int64), b < 2147483648 → hN b t → (∀ t, Q t → hN (b) t → Q' t) → wpX1_holdOnly k 2 t li lj Q → wpX1_holdOnly (h + k) 2 t li lj Q') := by
  intro k
  induction k with
  | zero => intro b; exact ⟨fun _ _ _ _ _ _ hR => False.elim hR, fun _ _ _ _ _ _ hR => False.elim hR, fun _ _ _ _ _ _ hR => False.elim hR⟩
  | succ k ih =>
    intro b
    refine ⟨?_, ?_, ?_⟩
    · intro t li lj hb g hQ hR
      have hR : wbX1_holdOnly_0 (wpX1_holdOnly k) k t li lj Q := hR
      show wbX1_holdOnly_0 (wpX1_holdOnly (h + k)) (h + k) t li lj Q'
      unfold wbX1_holdOnly_0 at hR ⊢
      exact (ih (b)).2.1 _ _ _ (by omega) g (fun z0 q0 g0 => hQ z0 q0 (hN_mono (by omega) g0)) hR
    · intro t li lj hb g hQ hR
      have hR : wbX1_holdOnly_1 (wpX1_holdOnly k) k t li lj Q := hR
      show wbX1_holdOnly_1 (wpX1_holdOnly (h + k)) (h + k) t li lj Q'
      unfold wbX1_holdOnly_1 at hR ⊢
      exact ⟨fun c1 => hQ _ (hR.1 c1) (hN_mono (by omega) g), fun c2 => ndX11_isIn (hR.2 c2) (fun y3_0 h3 => ⟨fun c4 => (ih (b)).2.2 _ _ _ (by omega) g (fun z0 q0 g0 => hQ z0 q0 (hN_mono (by omega) g0)) (h3.1 c4), fun c5 => ⟨(h3.2 c5).1, fun x6 e6 => have g6 : hN (b) x6 := (by rw [e6]; exact hN_B (by decide) g); (ih (b)).2.2 _ _ _ (by omega) g6 (fun z0 q0 g0 => hQ z0 q0 (hN_mono (by omega) g0)) ((h3.2 c5).2 x6 e6)⟩⟩)⟩
    · intro t li lj hb g hQ hR
      have hR : wbX1_holdOnly_2 (wpX1_holdOnly k) k t li lj Q := hR
      show wbX1_holdOnly_2 (wpX1_holdOnly (h + k)) (h + k) t li lj Q'
      unfold wbX1_holdOnly_2 at hR ⊢
      exact fun x1 e1 => (ih (b)).2.1 _ _ _ (by omega) g (fun z0 q0 g0 => hQ z0 q0 (hN_mono (by omega) g0)) (hR x1 e1)
theorem ndX1_holdOnly {h b k : Nat} {t : XT} {a1 : Int64} {Q Q' : XT → Prop} (hh : 300 ≤ h) (hb : b < 2147483648) (g : hN b t) (hR : wqX1_holdOnly k t a1 Q) (hQ : ∀ t, Q t → hN (b) t → Q' t) : wqX1_holdOnly (h + k) t a1 Q' := (ngX1_holdOnly hh Q Q' k b).1 t _ _ hb g hQ hR
set_option maxHeartbeats 4000000 in
set_option maxRecDepth 100000 in
theorem ngX11_squaresFrom {h : Nat} (hh : 300 ≤ h) (Q Q' : Int32 → XT → Prop) : ∀ (k b : Nat), (∀ (t : XT) (li : Nat → Int32) (lj : Nat → Int64), b < 2147483648 → hN b t → (∀ r t, Q r t → hN (b) t → Q' r t) → wpX11_squaresFrom k 0 t li lj Q → wpX11_squaresFrom (h + k) 0 t li lj Q') ∧ (∀ (t : XT) (li : Nat → Int32) (lj : Nat → Int64), b < 2147483648 → hN b t → (∀ r t, Q r t → hN (b) t → Q' r t) → wpX11_squaresFrom k 1 t li lj Q → wpX11_squaresFrom (h + k) 1 t li lj Q') ∧ (∀ (t : XT) (li : Nat → Int32) (lj : Nat → Int64), b < 2147483648 → hN b t → (∀ r t, Q r t → hN (b) t → Q' r t) → wpX11_squaresFrom k 2 t li lj Q → wpX11_squaresFrom (h + k) 2 t li lj Q') := by
  intro k
  induction k with
  | zero => intro b; exact ⟨fun _ _ _ _ _ _ hR => False.elim hR, fun _ _ _ _ _ _ hR => False.elim hR, fun _ _ _ _ _ _ hR => False.elim hR⟩
  | succ k ih =>
    intro b
    refine ⟨?_, ?_, ?_⟩
    · intro t li lj hb g hQ hR
      have hR : wbX11_squaresFrom_0 (wpX11_squaresFrom k) k t li lj Q := hR
      show wbX11_squaresFrom_0 (wpX11_squaresFrom (h + k)) (h + k) t li lj Q'
      unfold wbX11_squaresFrom_0 at hR ⊢
      exact ⟨hR.1, fun x1 e1 => ⟨fun c2 => ndX6_unpaired hh (by omega) g ((hR.2 x1 e1).1 c2) (fun y3_0 y3_1 h3 g3 => fun x4 e4 => ⟨(h3 x4 e4).1, fun x5 e5 => fun x6 e6 => ndX6_unpaired hh (by omega) g3 (((h3 x4 e4).2 x5 e5) x6 e6) (fun y7_0 y7_1 h7 g7 => fun x8 e8 => ⟨(h7 x8 e8).1, fun x9 e9 => fun x10 e10 => ndX1_start hh (by omega) g7 (((h7 x8 e8).2 x9 e9) x10 e10) (fun y11_0 h11 g11 => ndX1_pour hh (by omega) g11 h11 (fun y12_0 h12 g12 => ndX1_holdOnly hh (by omega) g12 h12 (fun y13_0 h13 g13 => fun x14 e14 => ndX1_pour hh (by omega) g13 (h13 x14 e14) (fun y15_0 h15 g15 => (ih (b)).2.1 _ _ _ (by omega) g15 (fun z0 z1 q0 g0 => hQ z0 z1 q0 (hN_mono (by omega) g0)) h15))))⟩)⟩), fun c16 => hQ _ _ ((hR.2 x1 e1).2 c16) (hN_mono (by omega) g)⟩⟩
    · intro t li lj hb g hQ hR
      have hR : wbX11_squaresFrom_1 (wpX11_squaresFrom k) k t li lj Q := hR
      show wbX11_squaresFrom_1 (wpX11_squaresFrom (h + k)) (h + k) t li lj Q'
      unfold wbX11_squaresFrom_1 at hR ⊢
      exact ⟨fun c1 => hQ _ _ (hR.1 c1) (hN_mono (by omega) g), fun c2 => ndX11_isIn (hR.2 c2) (fun y3_0 h3 => ⟨fun c4 => (ih (b)).2.2 _ _ _ (by omega) g (fun z0 z1 q0 g0 => hQ z0 z1 q0 (hN_mono (by omega) g0)) (h3.1 c4), fun c5 => ⟨(h3.2 c5).1, fun x6 e6 => fun x7 e7 => ⟨fun c8 => (ih (b)).2.2 _ _ _ (by omega) g (fun z0 z1 q0 g0 => hQ z0 z1 q0 (hN_mono (by omega) g0)) ((((h3.2 c5).2 x6 e6) x7 e7).1 c8), fun c9 => fun x10 e10 => (ih (b)).2.2 _ _ _ (by omega) g (fun z0 z1 q0 g0 => hQ z0 z1 q0 (hN_mono (by omega) g0)) (((((h3.2 c5).2 x6 e6) x7 e7).2 c9) x10 e10)⟩⟩⟩)⟩
    · intro t li lj hb g hQ hR
      have hR : wbX11_squaresFrom_2 (wpX11_squaresFrom k) k t li lj Q := hR
      show wbX11_squaresFrom_2 (wpX11_squaresFrom (h + k)) (h + k) t li lj Q'
      unfold wbX11_squaresFrom_2 at hR ⊢
      exact fun x1 e1 => (ih (b)).2.1 _ _ _ (by omega) g (fun z0 z1 q0 g0 => hQ z0 z1 q0 (hN_mono (by omega) g0)) (hR x1 e1)
theorem ndX11_squaresFrom {h b k : Nat} {t : XT} {a1 : Int32} {Q Q' : Int32 → XT → Prop} (hh : 300 ≤ h) (hb : b < 2147483648) (g : hN b t) (hR : wqX11_squaresFrom k t a1 Q) (hQ : ∀ r t, Q r t → hN (b) t → Q' r t) : wqX11_squaresFrom (h + k) t a1 Q' := (ngX11_squaresFrom hh Q Q' k b).1 t _ _ hb g hQ hR
set_option maxHeartbeats 4000000 in
set_option maxRecDepth 100000 in
theorem ngX11_squares {h : Nat} (hh : 300 ≤ h) (Q Q' : Int32 → XT → Prop) : ∀ (k b : Nat), (∀ (t : XT) (li : Nat → Int32) (lj : Nat → Int64), b < 2147483648 → hN b t → (∀ r t, Q r t → hN (b) t → Q' r t) → wpX11_squares k 0 t li lj Q → wpX11_squares (h + k) 0 t li lj Q') ∧ (∀ (t : XT) (li : Nat → Int32) (lj : Nat → Int64), b < 2147483648 → hN b t → (∀ r t, Q r t → hN (b) t → Q' r t) → wpX11_squares k 1 t li lj Q → wpX11_squares (h + k) 1 t li lj Q') ∧ (∀ (t : XT) (li : Nat → Int32) (lj : Nat → Int64), b < 2147483648 → hN b t → (∀ r t, Q r t → hN (b) t → Q' r t) → wpX11_squares k 2 t li lj Q → wpX11_squares (h + k) 2 t li lj Q') := by
  intro k
  induction k with
  | zero => intro b; exact ⟨fun _ _ _ _ _ _ hR => False.elim hR, fun _ _ _ _ _ _ hR => False.elim hR, fun _ _ _ _ _ _ hR => False.elim hR⟩
  | succ k ih =>
    intro b
    refine ⟨?_, ?_, ?_⟩
    · intro t li lj hb g hQ hR
      have hR : wbX11_squares_0 (wpX11_squares k) k t li lj Q := hR
      show wbX11_squares_0 (wpX11_squares (h + k)) (h + k) t li lj Q'
      unfold wbX11_squares_0 at hR ⊢
      exact ndX6_unpaired hh (by omega) g hR (fun y1_0 y1_1 h1 g1 => (ih (b)).2.1 _ _ _ (by omega) g1 (fun z0 z1 q0 g0 => hQ z0 z1 q0 (hN_mono (by omega) g0)) h1)
    · intro t li lj hb g hQ hR
      have hR : wbX11_squares_1 (wpX11_squares k) k t li lj Q := hR
      show wbX11_squares_1 (wpX11_squares (h + k)) (h + k) t li lj Q'
      unfold wbX11_squares_1 at hR ⊢
      exact ⟨fun c1 => hQ _ _ (hR.1 c1) (hN_mono (by omega) g), fun c2 => ndX11_isIn (hR.2 c2) (fun y3_0 h3 => ⟨fun c4 => (ih (b)).2.2 _ _ _ (by omega) g (fun z0 z1 q0 g0 => hQ z0 z1 q0 (hN_mono (by omega) g0)) (h3.1 c4), fun c5 => ⟨(h3.2 c5).1, fun x6 e6 => ⟨fun c7 => (ih (b)).2.2 _ _ _ (by omega) g (fun z0 z1 q0 g0 => hQ z0 z1 q0 (hN_mono (by omega) g0)) (((h3.2 c5).2 x6 e6).1 c7), fun c8 => ndX11_squaresFrom hh (by omega) g (((h3.2 c5).2 x6 e6).2 c8) (fun y9_0 y9_1 h9 g9 => fun x10 e10 => (ih (b)).2.2 _ _ _ (by omega) g9 (fun z0 z1 q0 g0 => hQ z0 z1 q0 (hN_mono (by omega) g0)) (h9 x10 e10))⟩⟩⟩)⟩
    · intro t li lj hb g hQ hR
      have hR : wbX11_squares_2 (wpX11_squares k) k t li lj Q := hR
      show wbX11_squares_2 (wpX11_squares (h + k)) (h + k) t li lj Q'
      unfold wbX11_squares_2 at hR ⊢
      exact fun x1 e1 => (ih (b)).2.1 _ _ _ (by omega) g (fun z0 z1 q0 g0 => hQ z0 z1 q0 (hN_mono (by omega) g0)) (hR x1 e1)
theorem ndX11_squares {h b k : Nat} {t : XT}  {Q Q' : Int32 → XT → Prop} (hh : 300 ≤ h) (hb : b < 2147483648) (g : hN b t) (hR : wqX11_squares k t  Q) (hQ : ∀ r t, Q r t → hN (b) t → Q' r t) : wqX11_squares (h + k) t  Q' := (ngX11_squares hh Q Q' k b).1 t _ _ hb g hQ hR
set_option maxHeartbeats 4000000 in
set_option maxRecDepth 100000 in
theorem ngX11_basis {h : Nat} (hh : 300 ≤ h) (Q Q' : Int64 → XT → Prop) : ∀ (k b : Nat), (∀ (t : XT) (li : Nat → Int32) (lj : Nat → Int64), b < 2147483648 → hN b t → (∀ r t, Q r t → hN (b) t → Q' r t) → wpX11_basis k 0 t li lj Q → wpX11_basis (h + k) 0 t li lj Q') := by
  intro k
  induction k with
  | zero => intro b; exact fun _ _ _ _ _ _ hR => False.elim hR
  | succ k ih =>
    intro b
    intro t li lj hb g hQ hR
    have hR : wbX11_basis_0 (wpX11_basis k) k t li lj Q := hR
    show wbX11_basis_0 (wpX11_basis (h + k)) (h + k) t li lj Q'
    unfold wbX11_basis_0 at hR ⊢
    exact ⟨fun c1 => hQ _ _ (hR.1 c1) (hN_mono (by omega) g), fun c2 => ndX6_unpaired hh (by omega) g (hR.2 c2) (fun y3_0 y3_1 h3 g3 => hQ _ _ h3 (hN_mono (by omega) g3))⟩
theorem ndX11_basis {h b k : Nat} {t : XT} {a1 : Int32} {Q Q' : Int64 → XT → Prop} (hh : 300 ≤ h) (hb : b < 2147483648) (g : hN b t) (hR : wqX11_basis k t a1 Q) (hQ : ∀ r t, Q r t → hN (b) t → Q' r t) : wqX11_basis (h + k) t a1 Q' := (ngX11_basis hh Q Q' k b) t _ _ hb g hQ hR
set_option maxHeartbeats 4000000 in
set_option maxRecDepth 100000 in
theorem ngX5_resize {h : Nat} (hh : 300 ≤ h) (Q Q' : XT → Prop) : ∀ (k b : Nat), (∀ (t : XT) (li : Nat → Int32) (lj : Nat → Int64), b < 2147483648 → hN b t → (∀ t, Q t → hN (b) t → Q' t) → wpX5_resize k 0 t li lj Q → wpX5_resize (h + k) 0 t li lj Q') ∧ (∀ (t : XT) (li : Nat → Int32) (lj : Nat → Int64), b < 2147483648 → hN b t → (∀ t, Q t → hN (b) t → Q' t) → wpX5_resize k 1 t li lj Q → wpX5_resize (h + k) 1 t li lj Q') ∧ (∀ (t : XT) (li : Nat → Int32) (lj : Nat → Int64), b < 2147483648 → hN b t → (∀ t, Q t → hN (b) t → Q' t) → wpX5_resize k 2 t li lj Q → wpX5_resize (h + k) 2 t li lj Q') ∧ (∀ (t : XT) (li : Nat → Int32) (lj : Nat → Int64), b < 2147483648 → hN b t → (∀ t, Q t → hN (b) t → Q' t) → wpX5_resize k 3 t li lj Q → wpX5_resize (h + k) 3 t li lj Q') ∧ (∀ (t : XT) (li : Nat → Int32) (lj : Nat → Int64), b < 2147483648 → hN b t → (∀ t, Q t → hN (b) t → Q' t) → wpX5_resize k 4 t li lj Q → wpX5_resize (h + k) 4 t li lj Q') := by
  intro k
  induction k with
  | zero => intro b; exact ⟨fun _ _ _ _ _ _ hR => False.elim hR, fun _ _ _ _ _ _ hR => False.elim hR, fun _ _ _ _ _ _ hR => False.elim hR, fun _ _ _ _ _ _ hR => False.elim hR, fun _ _ _ _ _ _ hR => False.elim hR⟩
  | succ k ih =>
    intro b
    refine ⟨?_, ?_, ?_, ?_, ?_⟩
    · intro t li lj hb g hQ hR
      have hR : wbX5_resize_0 (wpX5_resize k) k t li lj Q := hR
      show wbX5_resize_0 (wpX5_resize (h + k)) (h + k) t li lj Q'
      unfold wbX5_resize_0 at hR ⊢
      exact ⟨fun c1 => (ih (b)).2.1 _ _ _ (by omega) g (fun z0 q0 g0 => hQ z0 q0 (hN_mono (by omega) g0)) (hR.1 c1), fun c2 => ⟨fun c3 => (ih (b)).2.1 _ _ _ (by omega) g (fun z0 q0 g0 => hQ z0 q0 (hN_mono (by omega) g0)) ((hR.2 c2).1 c3), fun c4 => ⟨fun c5 => (ih (b)).2.1 _ _ _ (by omega) g (fun z0 q0 g0 => hQ z0 q0 (hN_mono (by omega) g0)) (((hR.2 c2).2 c4).1 c5), fun c6 => ⟨fun c7 => (ih (b)).2.1 _ _ _ (by omega) g (fun z0 q0 g0 => hQ z0 q0 (hN_mono (by omega) g0)) ((((hR.2 c2).2 c4).2 c6).1 c7), fun c8 => fun x9 e9 => ⟨fun c10 => (ih (b)).2.1 _ _ _ (by omega) g (fun z0 q0 g0 => hQ z0 q0 (hN_mono (by omega) g0)) ((((((hR.2 c2).2 c4).2 c6).2 c8) x9 e9).1 c10), fun c11 => (ih (b)).2.2.1 _ _ _ (by omega) g (fun z0 q0 g0 => hQ z0 q0 (hN_mono (by omega) g0)) ((((((hR.2 c2).2 c4).2 c6).2 c8) x9 e9).2 c11)⟩⟩⟩⟩⟩
    · intro t li lj hb g hQ hR
      have hR : wbX5_resize_1 (wpX5_resize k) k t li lj Q := hR
      show wbX5_resize_1 (wpX5_resize (h + k)) (h + k) t li lj Q'
      unfold wbX5_resize_1 at hR ⊢
      exact (ih (b)).2.2.1 _ _ _ (by omega) g (fun z0 q0 g0 => hQ z0 q0 (hN_mono (by omega) g0)) hR
    · intro t li lj hb g hQ hR
      have hR : wbX5_resize_2 (wpX5_resize k) k t li lj Q := hR
      show wbX5_resize_2 (wpX5_resize (h + k)) (h + k) t li lj Q'
      unfold wbX5_resize_2 at hR ⊢
      exact ⟨fun c1 => (ih (b)).2.2.2.1 _ _ _ (by omega) g (fun z0 q0 g0 => hQ z0 q0 (hN_mono (by omega) g0)) (hR.1 c1), fun c2 => (ih (b)).2.2.2.1 _ _ _ (by omega) g (fun z0 q0 g0 => hQ z0 q0 (hN_mono (by omega) g0)) (hR.2 c2)⟩
    · intro t li lj hb g hQ hR
      have hR : wbX5_resize_3 (wpX5_resize k) k t li lj Q := hR
      show wbX5_resize_3 (wpX5_resize (h + k)) (h + k) t li lj Q'
      unfold wbX5_resize_3 at hR ⊢
      exact fun x1 e1 => have g1 : hN (b) x1 := (by rw [e1]; exact hN_I (by decide) (by decide) (by decide) (by decide) g); ⟨fun c2 => (ih (b)).2.2.2.2 _ _ _ (by omega) g1 (fun z0 q0 g0 => hQ z0 q0 (hN_mono (by omega) g0)) ((hR x1 e1).1 c2), fun c3 => (ih (b)).2.2.2.2 _ _ _ (by omega) g1 (fun z0 q0 g0 => hQ z0 q0 (hN_mono (by omega) g0)) ((hR x1 e1).2 c3)⟩
    · intro t li lj hb g hQ hR
      have hR : wbX5_resize_4 (wpX5_resize k) k t li lj Q := hR
      show wbX5_resize_4 (wpX5_resize (h + k)) (h + k) t li lj Q'
      unfold wbX5_resize_4 at hR ⊢
      exact fun x1 e1 => have g1 : hN (b) x1 := (by rw [e1]; exact hN_I (by decide) (by decide) (by decide) (by decide) g); hQ _ (hR x1 e1) (hN_mono (by omega) g1)
theorem ndX5_resize {h b k : Nat} {t : XT} {a1 : Int32} {a2 : Int32} {Q Q' : XT → Prop} (hh : 300 ≤ h) (hb : b < 2147483648) (g : hN b t) (hR : wqX5_resize k t a1 a2 Q) (hQ : ∀ t, Q t → hN (b) t → Q' t) : wqX5_resize (h + k) t a1 a2 Q' := (ngX5_resize hh Q Q' k b).1 t _ _ hb g hQ hR
set_option maxHeartbeats 4000000 in
set_option maxRecDepth 100000 in
theorem ngX5_put {h : Nat} (hh : 300 ≤ h) (Q Q' : XT → Prop) : ∀ (k b : Nat), (∀ (t : XT) (li : Nat → Int32) (lj : Nat → Int64), b < 2147483648 → hN b t → (∀ t, Q t → hN (b) t → Q' t) → wpX5_put k 0 t li lj Q → wpX5_put (h + k) 0 t li lj Q') := by
  intro k
  induction k with
  | zero => intro b; exact fun _ _ _ _ _ _ hR => False.elim hR
  | succ k ih =>
    intro b
    intro t li lj hb g hQ hR
    have hR : wbX5_put_0 (wpX5_put k) k t li lj Q := hR
    show wbX5_put_0 (wpX5_put (h + k)) (h + k) t li lj Q'
    unfold wbX5_put_0 at hR ⊢
    exact ⟨fun c1 => hQ _ (hR.1 c1) (hN_mono (by omega) g), fun c2 => ⟨fun c3 => hQ _ ((hR.2 c2).1 c3) (hN_mono (by omega) g), fun c4 => ⟨fun c5 => hQ _ (((hR.2 c2).2 c4).1 c5) (hN_mono (by omega) g), fun c6 => ⟨fun c7 => hQ _ ((((hR.2 c2).2 c4).2 c6).1 c7) (hN_mono (by omega) g), fun c8 => fun x9 e9 => fun x10 e10 => ⟨((((((hR.2 c2).2 c4).2 c6).2 c8) x9 e9) x10 e10).1, fun x11 e11 => have g11 : hN (b) x11 := (by rw [e11]; exact hN_B (by decide) g); hQ _ (((((((hR.2 c2).2 c4).2 c6).2 c8) x9 e9) x10 e10).2 x11 e11) (hN_mono (by omega) g11)⟩⟩⟩⟩⟩
theorem ndX5_put {h b k : Nat} {t : XT} {a1 : Int32} {a2 : Int32} {a3 : Int64} {Q Q' : XT → Prop} (hh : 300 ≤ h) (hb : b < 2147483648) (g : hN b t) (hR : wqX5_put k t a1 a2 a3 Q) (hQ : ∀ t, Q t → hN (b) t → Q' t) : wqX5_put (h + k) t a1 a2 a3 Q' := (ngX5_put hh Q Q' k b) t _ _ hb g hQ hR
set_option maxHeartbeats 4000000 in
set_option maxRecDepth 100000 in
theorem ngX0_fillRow {h : Nat} (hh : 300 ≤ h) (Q Q' : XT → Prop) : ∀ (k b : Nat), (∀ (t : XT) (li : Nat → Int32) (lj : Nat → Int64), b < 2147483648 → hN b t → (∀ t, Q t → hN (b) t → Q' t) → wpX0_fillRow k 0 t li lj Q → wpX0_fillRow (h + k) 0 t li lj Q') ∧ (∀ (t : XT) (li : Nat → Int32) (lj : Nat → Int64), b < 2147483648 → hN b t → (∀ t, Q t → hN (b) t → Q' t) → wpX0_fillRow k 1 t li lj Q → wpX0_fillRow (h + k) 1 t li lj Q') ∧ (∀ (t : XT) (li : Nat → Int32) (lj : Nat → Int64), b < 2147483648 → hN b t → (∀ t, Q t → hN (b) t → Q' t) → wpX0_fillRow k 2 t li lj Q → wpX0_fillRow (h + k) 2 t li lj Q') ∧ (∀ (t : XT) (li : Nat → Int32) (lj : Nat → Int64), b < 2147483648 → hN b t → (∀ t, Q t → hN (b) t → Q' t) → wpX0_fillRow k 3 t li lj Q → wpX0_fillRow (h + k) 3 t li lj Q') := by
  intro k
  induction k with
  | zero => intro b; exact ⟨fun _ _ _ _ _ _ hR => False.elim hR, fun _ _ _ _ _ _ hR => False.elim hR, fun _ _ _ _ _ _ hR => False.elim hR, fun _ _ _ _ _ _ hR => False.elim hR⟩
  | succ k ih =>
    intro b
    refine ⟨?_, ?_, ?_, ?_⟩
    · intro t li lj hb g hQ hR
      have hR : wbX0_fillRow_0 (wpX0_fillRow k) k t li lj Q := hR
      show wbX0_fillRow_0 (wpX0_fillRow (h + k)) (h + k) t li lj Q'
      unfold wbX0_fillRow_0 at hR ⊢
      exact (ih (b)).2.1 _ _ _ (by omega) g (fun z0 q0 g0 => hQ z0 q0 (hN_mono (by omega) g0)) hR
    · intro t li lj hb g hQ hR
      have hR : wbX0_fillRow_1 (wpX0_fillRow k) k t li lj Q := hR
      show wbX0_fillRow_1 (wpX0_fillRow (h + k)) (h + k) t li lj Q'
      unfold wbX0_fillRow_1 at hR ⊢
      exact ⟨fun c1 => hQ _ (hR.1 c1) (hN_mono (by omega) g), fun c2 => ndX11_isIn (hR.2 c2) (fun y3_0 h3 => ⟨fun c4 => (ih (b)).2.2.2 _ _ _ (by omega) g (fun z0 q0 g0 => hQ z0 q0 (hN_mono (by omega) g0)) (h3.1 c4), fun c5 => ⟨fun c6 => ndX9_signOf hh (by omega) g ((h3.2 c5).1 c6) (fun y7_0 y7_1 h7 g7 => fun x8 e8 => (ih (b)).2.2.1 _ _ _ (by omega) g7 (fun z0 q0 g0 => hQ z0 q0 (hN_mono (by omega) g0)) (h7 x8 e8)), fun c9 => ⟨((h3.2 c5).2 c9).1, fun x10 e10 => (ih (b)).2.2.1 _ _ _ (by omega) g (fun z0 q0 g0 => hQ z0 q0 (hN_mono (by omega) g0)) (((h3.2 c5).2 c9).2 x10 e10)⟩⟩⟩)⟩
    · intro t li lj hb g hQ hR
      have hR : wbX0_fillRow_2 (wpX0_fillRow k) k t li lj Q := hR
      show wbX0_fillRow_2 (wpX0_fillRow (h + k)) (h + k) t li lj Q'
      unfold wbX0_fillRow_2 at hR ⊢
      exact ndX5_put hh (by omega) g hR (fun y1_0 h1 g1 => fun x2 e2 => (ih (b)).2.2.2 _ _ _ (by omega) g1 (fun z0 q0 g0 => hQ z0 q0 (hN_mono (by omega) g0)) (h1 x2 e2))
    · intro t li lj hb g hQ hR
      have hR : wbX0_fillRow_3 (wpX0_fillRow k) k t li lj Q := hR
      show wbX0_fillRow_3 (wpX0_fillRow (h + k)) (h + k) t li lj Q'
      unfold wbX0_fillRow_3 at hR ⊢
      exact fun x1 e1 => (ih (b)).2.1 _ _ _ (by omega) g (fun z0 q0 g0 => hQ z0 q0 (hN_mono (by omega) g0)) (hR x1 e1)
theorem ndX0_fillRow {h b k : Nat} {t : XT} {a1 : Int32} {a2 : Int32} {a3 : Int64} {a4 : Int32} {Q Q' : XT → Prop} (hh : 300 ≤ h) (hb : b < 2147483648) (g : hN b t) (hR : wqX0_fillRow k t a1 a2 a3 a4 Q) (hQ : ∀ t, Q t → hN (b) t → Q' t) : wqX0_fillRow (h + k) t a1 a2 a3 a4 Q' := (ngX0_fillRow hh Q Q' k b).1 t _ _ hb g hQ hR
set_option maxHeartbeats 4000000 in
set_option maxRecDepth 100000 in
theorem ngX0_fill {h : Nat} (hh : 300 ≤ h) (Q Q' : XT → Prop) : ∀ (k b : Nat), (∀ (t : XT) (li : Nat → Int32) (lj : Nat → Int64), b < 2147483648 → hN b t → (∀ t, Q t → hN (b) t → Q' t) → wpX0_fill k 0 t li lj Q → wpX0_fill (h + k) 0 t li lj Q') ∧ (∀ (t : XT) (li : Nat → Int32) (lj : Nat → Int64), b < 2147483648 → hN b t → (∀ t, Q t → hN (b) t → Q' t) → wpX0_fill k 1 t li lj Q → wpX0_fill (h + k) 1 t li lj Q') ∧ (∀ (t : XT) (li : Nat → Int32) (lj : Nat → Int64), b < 2147483648 → hN b t → (∀ t, Q t → hN (b) t → Q' t) → wpX0_fill k 2 t li lj Q → wpX0_fill (h + k) 2 t li lj Q') ∧ (∀ (t : XT) (li : Nat → Int32) (lj : Nat → Int64), b < 2147483648 → hN b t → (∀ t, Q t → hN (b) t → Q' t) → wpX0_fill k 3 t li lj Q → wpX0_fill (h + k) 3 t li lj Q') := by
  intro k
  induction k with
  | zero => intro b; exact ⟨fun _ _ _ _ _ _ hR => False.elim hR, fun _ _ _ _ _ _ hR => False.elim hR, fun _ _ _ _ _ _ hR => False.elim hR, fun _ _ _ _ _ _ hR => False.elim hR⟩
  | succ k ih =>
    intro b
    refine ⟨?_, ?_, ?_, ?_⟩
    · intro t li lj hb g hQ hR
      have hR : wbX0_fill_0 (wpX0_fill k) k t li lj Q := hR
      show wbX0_fill_0 (wpX0_fill (h + k)) (h + k) t li lj Q'
      unfold wbX0_fill_0 at hR ⊢
      exact ndJ13_bitCount_95d88 hR (fun y1_0 h1 => ndJ13_bitCount_95d88 h1 (fun y2_0 h2 => ndX5_resize hh (by omega) g h2 (fun y3_0 h3 g3 => (ih (b)).2.1 _ _ _ (by omega) g3 (fun z0 q0 g0 => hQ z0 q0 (hN_mono (by omega) g0)) h3)))
    · intro t li lj hb g hQ hR
      have hR : wbX0_fill_1 (wpX0_fill k) k t li lj Q := hR
      show wbX0_fill_1 (wpX0_fill (h + k)) (h + k) t li lj Q'
      unfold wbX0_fill_1 at hR ⊢
      exact ⟨fun c1 => hQ _ (hR.1 c1) (hN_mono (by omega) g), fun c2 => ndX11_isIn (hR.2 c2) (fun y3_0 h3 => ⟨fun c4 => (ih (b)).2.2.2 _ _ _ (by omega) g (fun z0 q0 g0 => hQ z0 q0 (hN_mono (by omega) g0)) (h3.1 c4), fun c5 => ⟨fun c6 => (ih (b)).2.2.1 _ _ _ (by omega) g (fun z0 q0 g0 => hQ z0 q0 (hN_mono (by omega) g0)) ((h3.2 c5).1 c6), fun c7 => ndX1_start hh (by omega) g ((h3.2 c5).2 c7) (fun y8_0 h8 g8 => ⟨h8.1, fun x9 e9 => ndX1_pour hh (by omega) g8 (h8.2 x9 e9) (fun y10_0 h10 g10 => (ih (b)).2.2.1 _ _ _ (by omega) g10 (fun z0 q0 g0 => hQ z0 q0 (hN_mono (by omega) g0)) h10)⟩)⟩⟩)⟩
    · intro t li lj hb g hQ hR
      have hR : wbX0_fill_2 (wpX0_fill k) k t li lj Q := hR
      show wbX0_fill_2 (wpX0_fill (h + k)) (h + k) t li lj Q'
      unfold wbX0_fill_2 at hR ⊢
      exact ndX0_fillRow hh (by omega) g hR (fun y1_0 h1 g1 => fun x2 e2 => (ih (b)).2.2.2 _ _ _ (by omega) g1 (fun z0 q0 g0 => hQ z0 q0 (hN_mono (by omega) g0)) (h1 x2 e2))
    · intro t li lj hb g hQ hR
      have hR : wbX0_fill_3 (wpX0_fill k) k t li lj Q := hR
      show wbX0_fill_3 (wpX0_fill (h + k)) (h + k) t li lj Q'
      unfold wbX0_fill_3 at hR ⊢
      exact fun x1 e1 => (ih (b)).2.1 _ _ _ (by omega) g (fun z0 q0 g0 => hQ z0 q0 (hN_mono (by omega) g0)) (hR x1 e1)
theorem ndX0_fill {h b k : Nat} {t : XT} {a1 : Int64} {a2 : Int64} {a3 : Int32} {Q Q' : XT → Prop} (hh : 300 ≤ h) (hb : b < 2147483648) (g : hN b t) (hR : wqX0_fill k t a1 a2 a3 Q) (hQ : ∀ t, Q t → hN (b) t → Q' t) : wqX0_fill (h + k) t a1 a2 a3 Q' := (ngX0_fill hh Q Q' k b).1 t _ _ hb g hQ hR
set_option maxHeartbeats 4000000 in
set_option maxRecDepth 100000 in
theorem ngX5_firstRow {h : Nat} (hh : 300 ≤ h) (Q Q' : Int32 → XT → Prop) : ∀ (k b : Nat), (∀ (t : XT) (li : Nat → Int32) (lj : Nat → Int64), b < 2147483648 → hN b t → (∀ r t, Q r t → hN (b) t → Q' r t) → wpX5_firstRow k 0 t li lj Q → wpX5_firstRow (h + k) 0 t li lj Q') ∧ (∀ (t : XT) (li : Nat → Int32) (lj : Nat → Int64), b < 2147483648 → hN b t → (∀ r t, Q r t → hN (b) t → Q' r t) → wpX5_firstRow k 1 t li lj Q → wpX5_firstRow (h + k) 1 t li lj Q') := by
  intro k
  induction k with
  | zero => intro b; exact ⟨fun _ _ _ _ _ _ hR => False.elim hR, fun _ _ _ _ _ _ hR => False.elim hR⟩
  | succ k ih =>
    intro b
    refine ⟨?_, ?_⟩
    · intro t li lj hb g hQ hR
      have hR : wbX5_firstRow_0 (wpX5_firstRow k) k t li lj Q := hR
      show wbX5_firstRow_0 (wpX5_firstRow (h + k)) (h + k) t li lj Q'
      unfold wbX5_firstRow_0 at hR ⊢
      exact (ih (b)).2 _ _ _ (by omega) g (fun z0 z1 q0 g0 => hQ z0 z1 q0 (hN_mono (by omega) g0)) hR
    · intro t li lj hb g hQ hR
      have hR : wbX5_firstRow_1 (wpX5_firstRow k) k t li lj Q := hR
      show wbX5_firstRow_1 (wpX5_firstRow (h + k)) (h + k) t li lj Q'
      unfold wbX5_firstRow_1 at hR ⊢
      exact ⟨fun c1 => hQ _ _ (hR.1 c1) (hN_mono (by omega) g), fun c2 => fun x3 e3 => fun x4 e4 => ⟨(((hR.2 c2) x3 e3) x4 e4).1, fun x5 e5 => fun x6 e6 => ⟨fun c7 => fun x8 e8 => (ih (b)).2 _ _ _ (by omega) g (fun z0 z1 q0 g0 => hQ z0 z1 q0 (hN_mono (by omega) g0)) (((((((hR.2 c2) x3 e3) x4 e4).2 x5 e5) x6 e6).1 c7) x8 e8), fun c9 => hQ _ _ ((((((hR.2 c2) x3 e3) x4 e4).2 x5 e5) x6 e6).2 c9) (hN_mono (by omega) g)⟩⟩⟩
theorem ndX5_firstRow {h b k : Nat} {t : XT} {a1 : Int32} {a2 : Int32} {Q Q' : Int32 → XT → Prop} (hh : 300 ≤ h) (hb : b < 2147483648) (g : hN b t) (hR : wqX5_firstRow k t a1 a2 Q) (hQ : ∀ r t, Q r t → hN (b) t → Q' r t) : wqX5_firstRow (h + k) t a1 a2 Q' := (ngX5_firstRow hh Q Q' k b).1 t _ _ hb g hQ hR
set_option maxHeartbeats 4000000 in
set_option maxRecDepth 100000 in
theorem ngX5_swapRows_c31 {h : Nat} (hh : 300 ≤ h) (Q Q' : XT → Prop) : ∀ (k b : Nat), (∀ (t : XT) (li : Nat → Int32) (lj : Nat → Int64), b < 2147483648 → hN b t → (∀ t, Q t → hN (b) t → Q' t) → wpX5_swapRows_c31 k 0 t li lj Q → wpX5_swapRows_c31 (h + k) 0 t li lj Q') ∧ (∀ (t : XT) (li : Nat → Int32) (lj : Nat → Int64), b < 2147483648 → hN b t → (∀ t, Q t → hN (b) t → Q' t) → wpX5_swapRows_c31 k 1 t li lj Q → wpX5_swapRows_c31 (h + k) 1 t li lj Q') := by
  intro k
  induction k with
  | zero => intro b; exact ⟨fun _ _ _ _ _ _ hR => False.elim hR, fun _ _ _ _ _ _ hR => False.elim hR⟩
  | succ k ih =>
    intro b
    refine ⟨?_, ?_⟩
    · intro t li lj hb g hQ hR
      have hR : wbX5_swapRows_c31_0 (wpX5_swapRows_c31 k) k t li lj Q := hR
      show wbX5_swapRows_c31_0 (wpX5_swapRows_c31 (h + k)) (h + k) t li lj Q'
      unfold wbX5_swapRows_c31_0 at hR ⊢
      exact (ih (b)).2 _ _ _ (by omega) g (fun z0 q0 g0 => hQ z0 q0 (hN_mono (by omega) g0)) hR
    · intro t li lj hb g hQ hR
      have hR : wbX5_swapRows_c31_1 (wpX5_swapRows_c31 k) k t li lj Q := hR
      show wbX5_swapRows_c31_1 (wpX5_swapRows_c31 (h + k)) (h + k) t li lj Q'
      unfold wbX5_swapRows_c31_1 at hR ⊢
      exact ⟨fun c1 => hQ _ (hR.1 c1) (hN_mono (by omega) g), fun c2 => ⟨fun c3 => hQ _ ((hR.2 c2).1 c3) (hN_mono (by omega) g), fun c4 => fun x5 e5 => fun x6 e6 => ⟨((((hR.2 c2).2 c4) x5 e5) x6 e6).1, fun x7 e7 => fun x8 e8 => fun x9 e9 => fun x10 e10 => fun x11 e11 => ⟨(((((((((hR.2 c2).2 c4) x5 e5) x6 e6).2 x7 e7) x8 e8) x9 e9) x10 e10) x11 e11).1, fun x12 e12 => ⟨((((((((((hR.2 c2).2 c4) x5 e5) x6 e6).2 x7 e7) x8 e8) x9 e9) x10 e10) x11 e11).2 x12 e12).1, fun x13 e13 => have g13 : hN (b) x13 := (by rw [e13]; exact hN_B (by decide) g); fun x14 e14 => fun x15 e15 => ⟨(((((((((((((hR.2 c2).2 c4) x5 e5) x6 e6).2 x7 e7) x8 e8) x9 e9) x10 e10) x11 e11).2 x12 e12).2 x13 e13) x14 e14) x15 e15).1, fun x16 e16 => have g16 : hN (b) x16 := (by rw [e16]; exact hN_B (by decide) g13); fun x17 e17 => (ih (b)).2 _ _ _ (by omega) g16 (fun z0 q0 g0 => hQ z0 q0 (hN_mono (by omega) g0)) (((((((((((((((hR.2 c2).2 c4) x5 e5) x6 e6).2 x7 e7) x8 e8) x9 e9) x10 e10) x11 e11).2 x12 e12).2 x13 e13) x14 e14) x15 e15).2 x16 e16) x17 e17)⟩⟩⟩⟩⟩⟩
theorem ndX5_swapRows_c31 {h b k : Nat} {t : XT} {a2 : Int32} {a3 : Int32} {Q Q' : XT → Prop} (hh : 300 ≤ h) (hb : b < 2147483648) (g : hN b t) (hR : wqX5_swapRows_c31 k t a2 a3 Q) (hQ : ∀ t, Q t → hN (b) t → Q' t) : wqX5_swapRows_c31 (h + k) t a2 a3 Q' := (ngX5_swapRows_c31 hh Q Q' k b).1 t _ _ hb g hQ hR
set_option maxHeartbeats 4000000 in
set_option maxRecDepth 100000 in
theorem ngX5_makePositive {h : Nat} (hh : 300 ≤ h) (Q Q' : XT → Prop) : ∀ (k b : Nat), (∀ (t : XT) (li : Nat → Int32) (lj : Nat → Int64), b < 2147483648 → hN b t → (∀ t, Q t → hN (b) t → Q' t) → wpX5_makePositive k 0 t li lj Q → wpX5_makePositive (h + k) 0 t li lj Q') ∧ (∀ (t : XT) (li : Nat → Int32) (lj : Nat → Int64), b < 2147483648 → hN b t → (∀ t, Q t → hN (b) t → Q' t) → wpX5_makePositive k 1 t li lj Q → wpX5_makePositive (h + k) 1 t li lj Q') := by
  intro k
  induction k with
  | zero => intro b; exact ⟨fun _ _ _ _ _ _ hR => False.elim hR, fun _ _ _ _ _ _ hR => False.elim hR⟩
  | succ k ih =>
    intro b
    refine ⟨?_, ?_⟩
    · intro t li lj hb g hQ hR
      have hR : wbX5_makePositive_0 (wpX5_makePositive k) k t li lj Q := hR
      show wbX5_makePositive_0 (wpX5_makePositive (h + k)) (h + k) t li lj Q'
      unfold wbX5_makePositive_0 at hR ⊢
      exact fun x1 e1 => fun x2 e2 => ⟨((hR x1 e1) x2 e2).1, fun x3 e3 => fun x4 e4 => ⟨fun c5 => (ih (b)).2 _ _ _ (by omega) g (fun z0 q0 g0 => hQ z0 q0 (hN_mono (by omega) g0)) (((((hR x1 e1) x2 e2).2 x3 e3) x4 e4).1 c5), fun c6 => hQ _ (((((hR x1 e1) x2 e2).2 x3 e3) x4 e4).2 c6) (hN_mono (by omega) g)⟩⟩
    · intro t li lj hb g hQ hR
      have hR : wbX5_makePositive_1 (wpX5_makePositive k) k t li lj Q := hR
      show wbX5_makePositive_1 (wpX5_makePositive (h + k)) (h + k) t li lj Q'
      unfold wbX5_makePositive_1 at hR ⊢
      exact ⟨fun c1 => hQ _ (hR.1 c1) (hN_mono (by omega) g), fun c2 => fun x3 e3 => fun x4 e4 => fun x5 e5 => fun x6 e6 => ⟨(((((hR.2 c2) x3 e3) x4 e4) x5 e5) x6 e6).1, fun x7 e7 => fun x8 e8 => ⟨(((((((hR.2 c2) x3 e3) x4 e4) x5 e5) x6 e6).2 x7 e7) x8 e8).1, fun x9 e9 => have g9 : hN (b) x9 := (by rw [e9]; exact hN_B (by decide) g); fun x10 e10 => (ih (b)).2 _ _ _ (by omega) g9 (fun z0 q0 g0 => hQ z0 q0 (hN_mono (by omega) g0)) (((((((((hR.2 c2) x3 e3) x4 e4) x5 e5) x6 e6).2 x7 e7) x8 e8).2 x9 e9) x10 e10)⟩⟩⟩
theorem ndX5_makePositive {h b k : Nat} {t : XT} {a1 : Int32} {a2 : Int32} {Q Q' : XT → Prop} (hh : 300 ≤ h) (hb : b < 2147483648) (g : hN b t) (hR : wqX5_makePositive k t a1 a2 Q) (hQ : ∀ t, Q t → hN (b) t → Q' t) : wqX5_makePositive (h + k) t a1 a2 Q' := (ngX5_makePositive hh Q Q' k b).1 t _ _ hb g hQ hR
set_option maxHeartbeats 4000000 in
set_option maxRecDepth 100000 in
theorem ngX5_clearBelow {h : Nat} (hh : 300 ≤ h) (Q Q' : XT → Prop) : ∀ (k b : Nat), (∀ (t : XT) (li : Nat → Int32) (lj : Nat → Int64), b < 2147483648 → hN b t → (∀ t, Q t → hN (b) t → Q' t) → wpX5_clearBelow k 0 t li lj Q → wpX5_clearBelow (h + k) 0 t li lj Q') ∧ (∀ (t : XT) (li : Nat → Int32) (lj : Nat → Int64), b < 2147483648 → hN b t → (∀ t, Q t → hN (b) t → Q' t) → wpX5_clearBelow k 1 t li lj Q → wpX5_clearBelow (h + k) 1 t li lj Q') ∧ (∀ (t : XT) (li : Nat → Int32) (lj : Nat → Int64), b < 2147483648 → hN b t → (∀ t, Q t → hN (b) t → Q' t) → wpX5_clearBelow k 2 t li lj Q → wpX5_clearBelow (h + k) 2 t li lj Q') ∧ (∀ (t : XT) (li : Nat → Int32) (lj : Nat → Int64), b < 2147483648 → hN b t → (∀ t, Q t → hN (b) t → Q' t) → wpX5_clearBelow k 3 t li lj Q → wpX5_clearBelow (h + k) 3 t li lj Q') ∧ (∀ (t : XT) (li : Nat → Int32) (lj : Nat → Int64), b < 2147483648 → hN b t → (∀ t, Q t → hN (b) t → Q' t) → wpX5_clearBelow k 4 t li lj Q → wpX5_clearBelow (h + k) 4 t li lj Q') ∧ (∀ (t : XT) (li : Nat → Int32) (lj : Nat → Int64), b < 2147483648 → hN b t → (∀ t, Q t → hN (b) t → Q' t) → wpX5_clearBelow k 5 t li lj Q → wpX5_clearBelow (h + k) 5 t li lj Q') := by
  intro k
  induction k with
  | zero => intro b; exact ⟨fun _ _ _ _ _ _ hR => False.elim hR, fun _ _ _ _ _ _ hR => False.elim hR, fun _ _ _ _ _ _ hR => False.elim hR, fun _ _ _ _ _ _ hR => False.elim hR, fun _ _ _ _ _ _ hR => False.elim hR, fun _ _ _ _ _ _ hR => False.elim hR⟩
  | succ k ih =>
    intro b
    refine ⟨?_, ?_, ?_, ?_, ?_, ?_⟩
    · intro t li lj hb g hQ hR
      have hR : wbX5_clearBelow_0 (wpX5_clearBelow k) k t li lj Q := hR
      show wbX5_clearBelow_0 (wpX5_clearBelow (h + k)) (h + k) t li lj Q'
      unfold wbX5_clearBelow_0 at hR ⊢
      exact fun x1 e1 => fun x2 e2 => ⟨((hR x1 e1) x2 e2).1, fun x3 e3 => fun x4 e4 => ⟨fun c5 => fun x6 e6 => (ih (b)).2.1 _ _ _ (by omega) g (fun z0 q0 g0 => hQ z0 q0 (hN_mono (by omega) g0)) ((((((hR x1 e1) x2 e2).2 x3 e3) x4 e4).1 c5) x6 e6), fun c7 => hQ _ (((((hR x1 e1) x2 e2).2 x3 e3) x4 e4).2 c7) (hN_mono (by omega) g)⟩⟩
    · intro t li lj hb g hQ hR
      have hR : wbX5_clearBelow_1 (wpX5_clearBelow k) k t li lj Q := hR
      show wbX5_clearBelow_1 (wpX5_clearBelow (h + k)) (h + k) t li lj Q'
      unfold wbX5_clearBelow_1 at hR ⊢
      exact ⟨fun c1 => hQ _ (hR.1 c1) (hN_mono (by omega) g), fun c2 => fun x3 e3 => fun x4 e4 => ⟨(((hR.2 c2) x3 e3) x4 e4).1, fun x5 e5 => fun x6 e6 => ⟨fun c7 => (ih (b)).2.2.1 _ _ _ (by omega) g (fun z0 q0 g0 => hQ z0 q0 (hN_mono (by omega) g0)) ((((((hR.2 c2) x3 e3) x4 e4).2 x5 e5) x6 e6).1 c7), fun c8 => fun x9 e9 => ⟨fun c10 => (ih (b)).2.2.2.1 _ _ _ (by omega) g (fun z0 q0 g0 => hQ z0 q0 (hN_mono (by omega) g0)) ((((((((hR.2 c2) x3 e3) x4 e4).2 x5 e5) x6 e6).2 c8) x9 e9).1 c10), fun c11 => (ih (b)).2.2.1 _ _ _ (by omega) g (fun z0 q0 g0 => hQ z0 q0 (hN_mono (by omega) g0)) ((((((((hR.2 c2) x3 e3) x4 e4).2 x5 e5) x6 e6).2 c8) x9 e9).2 c11)⟩⟩⟩⟩
    · intro t li lj hb g hQ hR
      have hR : wbX5_clearBelow_2 (wpX5_clearBelow k) k t li lj Q := hR
      show wbX5_clearBelow_2 (wpX5_clearBelow (h + k)) (h + k) t li lj Q'
      unfold wbX5_clearBelow_2 at hR ⊢
      exact (ih (b)).2.2.2.1 _ _ _ (by omega) g (fun z0 q0 g0 => hQ z0 q0 (hN_mono (by omega) g0)) hR
    · intro t li lj hb g hQ hR
      have hR : wbX5_clearBelow_3 (wpX5_clearBelow k) k t li lj Q := hR
      show wbX5_clearBelow_3 (wpX5_clearBelow (h + k)) (h + k) t li lj Q'
      unfold wbX5_clearBelow_3 at hR ⊢
      exact (ih (b)).2.2.2.2.1 _ _ _ (by omega) g (fun z0 q0 g0 => hQ z0 q0 (hN_mono (by omega) g0)) hR
    · intro t li lj hb g hQ hR
      have hR : wbX5_clearBelow_4 (wpX5_clearBelow k) k t li lj Q := hR
      show wbX5_clearBelow_4 (wpX5_clearBelow (h + k)) (h + k) t li lj Q'
      unfold wbX5_clearBelow_4 at hR ⊢
      exact ⟨fun c1 => (ih (b)).2.2.2.2.2 _ _ _ (by omega) g (fun z0 q0 g0 => hQ z0 q0 (hN_mono (by omega) g0)) (hR.1 c1), fun c2 => ⟨fun c3 => (ih (b)).2.2.2.2.2 _ _ _ (by omega) g (fun z0 q0 g0 => hQ z0 q0 (hN_mono (by omega) g0)) ((hR.2 c2).1 c3), fun c4 => fun x5 e5 => fun x6 e6 => ⟨((((hR.2 c2).2 c4) x5 e5) x6 e6).1, fun x7 e7 => fun x8 e8 => fun x9 e9 => fun x10 e10 => ⟨((((((((hR.2 c2).2 c4) x5 e5) x6 e6).2 x7 e7) x8 e8) x9 e9) x10 e10).1, fun x11 e11 => fun x12 e12 => fun x13 e13 => ⟨(((((((((((hR.2 c2).2 c4) x5 e5) x6 e6).2 x7 e7) x8 e8) x9 e9) x10 e10).2 x11 e11) x12 e12) x13 e13).1, fun x14 e14 => ⟨((((((((((((hR.2 c2).2 c4) x5 e5) x6 e6).2 x7 e7) x8 e8) x9 e9) x10 e10).2 x11 e11) x12 e12) x13 e13).2 x14 e14).1, fun x15 e15 => have g15 : hN (b) x15 := (by rw [e15]; exact hN_B (by decide) g); fun x16 e16 => (ih (b)).2.2.2.2.1 _ _ _ (by omega) g15 (fun z0 q0 g0 => hQ z0 q0 (hN_mono (by omega) g0)) ((((((((((((((hR.2 c2).2 c4) x5 e5) x6 e6).2 x7 e7) x8 e8) x9 e9) x10 e10).2 x11 e11) x12 e12) x13 e13).2 x14 e14).2 x15 e15) x16 e16)⟩⟩⟩⟩⟩⟩
    · intro t li lj hb g hQ hR
      have hR : wbX5_clearBelow_5 (wpX5_clearBelow k) k t li lj Q := hR
      show wbX5_clearBelow_5 (wpX5_clearBelow (h + k)) (h + k) t li lj Q'
      unfold wbX5_clearBelow_5 at hR ⊢
      exact fun x1 e1 => (ih (b)).2.1 _ _ _ (by omega) g (fun z0 q0 g0 => hQ z0 q0 (hN_mono (by omega) g0)) (hR x1 e1)
theorem ndX5_clearBelow {h b k : Nat} {t : XT} {a1 : Int32} {a2 : Int32} {a3 : Int64} {Q Q' : XT → Prop} (hh : 300 ≤ h) (hb : b < 2147483648) (g : hN b t) (hR : wqX5_clearBelow k t a1 a2 a3 Q) (hQ : ∀ t, Q t → hN (b) t → Q' t) : wqX5_clearBelow (h + k) t a1 a2 a3 Q' := (ngX5_clearBelow hh Q Q' k b).1 t _ _ hb g hQ hR
set_option maxHeartbeats 4000000 in
set_option maxRecDepth 100000 in
theorem ngX5_eliminate {h : Nat} (hh : 300 ≤ h) (Q Q' : Int32 → XT → Prop) : ∀ (k b : Nat), (∀ (t : XT) (li : Nat → Int32) (lj : Nat → Int64), b < 2147483648 → hN b t → (∀ r t, Q r t → hN (b) t → Q' r t) → wpX5_eliminate k 0 t li lj Q → wpX5_eliminate (h + k) 0 t li lj Q') ∧ (∀ (t : XT) (li : Nat → Int32) (lj : Nat → Int64), b < 2147483648 → hN b t → (∀ r t, Q r t → hN (b) t → Q' r t) → wpX5_eliminate k 1 t li lj Q → wpX5_eliminate (h + k) 1 t li lj Q') ∧ (∀ (t : XT) (li : Nat → Int32) (lj : Nat → Int64), b < 2147483648 → hN b t → (∀ r t, Q r t → hN (b) t → Q' r t) → wpX5_eliminate k 2 t li lj Q → wpX5_eliminate (h + k) 2 t li lj Q') ∧ (∀ (t : XT) (li : Nat → Int32) (lj : Nat → Int64), b < 2147483648 → hN b t → (∀ r t, Q r t → hN (b) t → Q' r t) → wpX5_eliminate k 3 t li lj Q → wpX5_eliminate (h + k) 3 t li lj Q') := by
  intro k
  induction k with
  | zero => intro b; exact ⟨fun _ _ _ _ _ _ hR => False.elim hR, fun _ _ _ _ _ _ hR => False.elim hR, fun _ _ _ _ _ _ hR => False.elim hR, fun _ _ _ _ _ _ hR => False.elim hR⟩
  | succ k ih =>
    intro b
    refine ⟨?_, ?_, ?_, ?_⟩
    · intro t li lj hb g hQ hR
      have hR : wbX5_eliminate_0 (wpX5_eliminate k) k t li lj Q := hR
      show wbX5_eliminate_0 (wpX5_eliminate (h + k)) (h + k) t li lj Q'
      unfold wbX5_eliminate_0 at hR ⊢
      exact fun x1 e1 => ⟨(hR x1 e1).1, (hR x1 e1).2.1, (hR x1 e1).2.2.1, (hR x1 e1).2.2.2.1, (hR x1 e1).2.2.2.2.1, fun x2 e2 => have g2 : hN (b) x2 := (by rw [e2]; exact hN_B (by decide) g); (ih (b)).2.1 _ _ _ (by omega) g2 (fun z0 z1 q0 g0 => hQ z0 z1 q0 (hN_mono (by omega) g0)) ((hR x1 e1).2.2.2.2.2 x2 e2)⟩
    · intro t li lj hb g hQ hR
      have hR : wbX5_eliminate_1 (wpX5_eliminate k) k t li lj Q := hR
      show wbX5_eliminate_1 (wpX5_eliminate (h + k)) (h + k) t li lj Q'
      unfold wbX5_eliminate_1 at hR ⊢
      exact ⟨fun c1 => (ih (b)).2.2.2 _ _ _ (by omega) g (fun z0 z1 q0 g0 => hQ z0 z1 q0 (hN_mono (by omega) g0)) (hR.1 c1), fun c2 => ⟨fun c3 => (ih (b)).2.2.2 _ _ _ (by omega) g (fun z0 z1 q0 g0 => hQ z0 z1 q0 (hN_mono (by omega) g0)) ((hR.2 c2).1 c3), fun c4 => ndX5_firstRow hh (by omega) g ((hR.2 c2).2 c4) (fun y5_0 y5_1 h5 g5 => ⟨fun c6 => (ih (b)).2.2.1 _ _ _ (by omega) g5 (fun z0 z1 q0 g0 => hQ z0 z1 q0 (hN_mono (by omega) g0)) (h5.1 c6), fun c7 => ndX5_swapRows_c31 hh (by omega) g5 (h5.2 c7) (fun y8_0 h8 g8 => ndX5_makePositive hh (by omega) g8 h8 (fun y9_0 h9 g9 => ndX5_clearBelow hh (by omega) g9 h9 (fun y10_0 h10 g10 => fun x11 e11 => fun x12 e12 => ⟨((h10 x11 e11) x12 e12).1, fun x13 e13 => fun x14 e14 => (ih (b)).2.2.1 _ _ _ (by omega) g10 (fun z0 z1 q0 g0 => hQ z0 z1 q0 (hN_mono (by omega) g0)) ((((h10 x11 e11) x12 e12).2 x13 e13) x14 e14)⟩)))⟩)⟩⟩
    · intro t li lj hb g hQ hR
      have hR : wbX5_eliminate_2 (wpX5_eliminate k) k t li lj Q := hR
      show wbX5_eliminate_2 (wpX5_eliminate (h + k)) (h + k) t li lj Q'
      unfold wbX5_eliminate_2 at hR ⊢
      exact fun x1 e1 => (ih (b)).2.1 _ _ _ (by omega) g (fun z0 z1 q0 g0 => hQ z0 z1 q0 (hN_mono (by omega) g0)) (hR x1 e1)
    · intro t li lj hb g hQ hR
      have hR : wbX5_eliminate_3 (wpX5_eliminate k) k t li lj Q := hR
      show wbX5_eliminate_3 (wpX5_eliminate (h + k)) (h + k) t li lj Q'
      unfold wbX5_eliminate_3 at hR ⊢
      exact fun x1 e1 => have g1 : hN (b) x1 := (by rw [e1]; exact hN_J (by decide) (by decide) (by decide) g); hQ _ _ (hR x1 e1) (hN_mono (by omega) g1)
theorem ndX5_eliminate {h b k : Nat} {t : XT}  {Q Q' : Int32 → XT → Prop} (hh : 300 ≤ h) (hb : b < 2147483648) (g : hN b t) (hR : wqX5_eliminate k t  Q) (hQ : ∀ r t, Q r t → hN (b) t → Q' r t) : wqX5_eliminate (h + k) t  Q' := (ngX5_eliminate hh Q Q' k b).1 t _ _ hb g hQ hR
set_option maxHeartbeats 4000000 in
set_option maxRecDepth 100000 in
theorem ngX0_rankOf {h : Nat} (hh : 300 ≤ h) (Q Q' : Int32 → XT → Prop) : ∀ (k b : Nat), (∀ (t : XT) (li : Nat → Int32) (lj : Nat → Int64), b < 2147483648 → hN b t → (∀ r t, Q r t → hN (b) t → Q' r t) → wpX0_rankOf k 0 t li lj Q → wpX0_rankOf (h + k) 0 t li lj Q') ∧ (∀ (t : XT) (li : Nat → Int32) (lj : Nat → Int64), b < 2147483648 → hN b t → (∀ r t, Q r t → hN (b) t → Q' r t) → wpX0_rankOf k 1 t li lj Q → wpX0_rankOf (h + k) 1 t li lj Q') := by
  intro k
  induction k with
  | zero => intro b; exact ⟨fun _ _ _ _ _ _ hR => False.elim hR, fun _ _ _ _ _ _ hR => False.elim hR⟩
  | succ k ih =>
    intro b
    refine ⟨?_, ?_⟩
    · intro t li lj hb g hQ hR
      have hR : wbX0_rankOf_0 (wpX0_rankOf k) k t li lj Q := hR
      show wbX0_rankOf_0 (wpX0_rankOf (h + k)) (h + k) t li lj Q'
      unfold wbX0_rankOf_0 at hR ⊢
      exact ⟨fun c1 => (ih (b)).2 _ _ _ (by omega) g (fun z0 z1 q0 g0 => hQ z0 z1 q0 (hN_mono (by omega) g0)) (hR.1 c1), fun c2 => ⟨fun c3 => ⟨((hR.2 c2).1 c3).1, fun x4 e4 => fun x5 e5 => fun x6 e6 => ⟨(((((hR.2 c2).1 c3).2 x4 e4) x5 e5) x6 e6).1, fun x7 e7 => fun x8 e8 => ndX0_fill hh (by omega) g (((((((hR.2 c2).1 c3).2 x4 e4) x5 e5) x6 e6).2 x7 e7) x8 e8) (fun y9_0 h9 g9 => ndX5_eliminate hh (by omega) g9 h9 (fun y10_0 y10_1 h10 g10 => hQ _ _ h10 (hN_mono (by omega) g10)))⟩⟩, fun c11 => (ih (b)).2 _ _ _ (by omega) g (fun z0 z1 q0 g0 => hQ z0 z1 q0 (hN_mono (by omega) g0)) ((hR.2 c2).2 c11)⟩⟩
    · intro t li lj hb g hQ hR
      have hR : wbX0_rankOf_1 (wpX0_rankOf k) k t li lj Q := hR
      show wbX0_rankOf_1 (wpX0_rankOf (h + k)) (h + k) t li lj Q'
      unfold wbX0_rankOf_1 at hR ⊢
      exact hQ _ _ hR (hN_mono (by omega) g)
theorem ndX0_rankOf {h b k : Nat} {t : XT} {a1 : Int64} {a2 : Int32} {a3 : Int32} {Q Q' : Int32 → XT → Prop} (hh : 300 ≤ h) (hb : b < 2147483648) (g : hN b t) (hR : wqX0_rankOf k t a1 a2 a3 Q) (hQ : ∀ r t, Q r t → hN (b) t → Q' r t) : wqX0_rankOf (h + k) t a1 a2 a3 Q' := (ngX0_rankOf hh Q Q' k b).1 t _ _ hb g hQ hR
set_option maxHeartbeats 4000000 in
set_option maxRecDepth 100000 in
theorem ngX0_bettiOf {h : Nat} (hh : 300 ≤ h) (Q Q' : Int32 → XT → Prop) : ∀ (k b : Nat), (∀ (t : XT) (li : Nat → Int32) (lj : Nat → Int64), b < 2147483648 → hN b t → (∀ r t, Q r t → hN (b) t → Q' r t) → wpX0_bettiOf k 0 t li lj Q → wpX0_bettiOf (h + k) 0 t li lj Q') := by
  intro k
  induction k with
  | zero => intro b; exact fun _ _ _ _ _ _ hR => False.elim hR
  | succ k ih =>
    intro b
    intro t li lj hb g hQ hR
    have hR : wbX0_bettiOf_0 (wpX0_bettiOf k) k t li lj Q := hR
    show wbX0_bettiOf_0 (wpX0_bettiOf (h + k)) (h + k) t li lj Q'
    unfold wbX0_bettiOf_0 at hR ⊢
    exact ⟨hR.1, fun x1 e1 => fun x2 e2 => ndJ13_bitCount_95d88 ((hR.2 x1 e1) x2 e2) (fun y3_0 h3 => ndX0_rankOf hh (by omega) g h3 (fun y4_0 y4_1 h4 g4 => fun x5 e5 => fun x6 e6 => ndX0_rankOf hh (by omega) g4 ((h4 x5 e5) x6 e6) (fun y7_0 y7_1 h7 g7 => fun x8 e8 => hQ _ _ (h7 x8 e8) (hN_mono (by omega) g7))))⟩
theorem ndX0_bettiOf {h b k : Nat} {t : XT} {a1 : Int64} {a2 : Int32} {a3 : Int32} {Q Q' : Int32 → XT → Prop} (hh : 300 ≤ h) (hb : b < 2147483648) (g : hN b t) (hR : wqX0_bettiOf k t a1 a2 a3 Q) (hQ : ∀ r t, Q r t → hN (b) t → Q' r t) : wqX0_bettiOf (h + k) t a1 a2 a3 Q' := (ngX0_bettiOf hh Q Q' k b) t _ _ hb g hQ hR
set_option maxHeartbeats 4000000 in
set_option maxRecDepth 100000 in
theorem ngX11_betti {h : Nat} (hh : 300 ≤ h) (Q Q' : Int32 → XT → Prop) : ∀ (k b : Nat), (∀ (t : XT) (li : Nat → Int32) (lj : Nat → Int64), b < 2147483648 → hN b t → (∀ r t, Q r t → hN (b) t → Q' r t) → wpX11_betti k 0 t li lj Q → wpX11_betti (h + k) 0 t li lj Q') ∧ (∀ (t : XT) (li : Nat → Int32) (lj : Nat → Int64), b < 2147483648 → hN b t → (∀ r t, Q r t → hN (b) t → Q' r t) → wpX11_betti k 1 t li lj Q → wpX11_betti (h + k) 1 t li lj Q') ∧ (∀ (t : XT) (li : Nat → Int32) (lj : Nat → Int64), b < 2147483648 → hN b t → (∀ r t, Q r t → hN (b) t → Q' r t) → wpX11_betti k 2 t li lj Q → wpX11_betti (h + k) 2 t li lj Q') := by
  intro k
  induction k with
  | zero => intro b; exact ⟨fun _ _ _ _ _ _ hR => False.elim hR, fun _ _ _ _ _ _ hR => False.elim hR, fun _ _ _ _ _ _ hR => False.elim hR⟩
  | succ k ih =>
    intro b
    refine ⟨?_, ?_, ?_⟩
    · intro t li lj hb g hQ hR
      have hR : wbX11_betti_0 (wpX11_betti k) k t li lj Q := hR
      show wbX11_betti_0 (wpX11_betti (h + k)) (h + k) t li lj Q'
      unfold wbX11_betti_0 at hR ⊢
      exact ndX11_isDim hR (fun y1_0 h1 => ⟨fun c2 => (ih (b)).2.1 _ _ _ (by omega) g (fun z0 z1 q0 g0 => hQ z0 z1 q0 (hN_mono (by omega) g0)) (h1.1 c2), fun c3 => ⟨fun c4 => (ih (b)).2.1 _ _ _ (by omega) g (fun z0 z1 q0 g0 => hQ z0 z1 q0 (hN_mono (by omega) g0)) ((h1.2 c3).1 c4), fun c5 => ⟨fun c6 => ndX11_basis hh (by omega) g (((h1.2 c3).2 c5).1 c6) (fun y7_0 y7_1 h7 g7 => ⟨fun c8 => (ih (b)).2.2 _ _ _ (by omega) g7 (fun z0 z1 q0 g0 => hQ z0 z1 q0 (hN_mono (by omega) g0)) (h7.1 c8), fun c9 => (ih (b)).2.2 _ _ _ (by omega) g7 (fun z0 z1 q0 g0 => hQ z0 z1 q0 (hN_mono (by omega) g0)) (h7.2 c9)⟩), fun c10 => (ih (b)).2.1 _ _ _ (by omega) g (fun z0 z1 q0 g0 => hQ z0 z1 q0 (hN_mono (by omega) g0)) (((h1.2 c3).2 c5).2 c10)⟩⟩⟩)
    · intro t li lj hb g hQ hR
      have hR : wbX11_betti_1 (wpX11_betti k) k t li lj Q := hR
      show wbX11_betti_1 (wpX11_betti (h + k)) (h + k) t li lj Q'
      unfold wbX11_betti_1 at hR ⊢
      exact hQ _ _ hR (hN_mono (by omega) g)
    · intro t li lj hb g hQ hR
      have hR : wbX11_betti_2 (wpX11_betti k) k t li lj Q := hR
      show wbX11_betti_2 (wpX11_betti (h + k)) (h + k) t li lj Q'
      unfold wbX11_betti_2 at hR ⊢
      exact ndX0_bettiOf hh (by omega) g hR (fun y1_0 y1_1 h1 g1 => hQ _ _ h1 (hN_mono (by omega) g1))
theorem ndX11_betti {h b k : Nat} {t : XT} {a1 : Int32} {a2 : Int32} {Q Q' : Int32 → XT → Prop} (hh : 300 ≤ h) (hb : b < 2147483648) (g : hN b t) (hR : wqX11_betti k t a1 a2 Q) (hQ : ∀ r t, Q r t → hN (b) t → Q' r t) : wqX11_betti (h + k) t a1 a2 Q' := (ngX11_betti hh Q Q' k b).1 t _ _ hb g hQ hR
set_option maxHeartbeats 4000000 in
set_option maxRecDepth 100000 in
theorem ngX5_remainder {h : Nat} (hh : 300 ≤ h) (Q Q' : Int64 → XT → Prop) : ∀ (k b : Nat), (∀ (t : XT) (li : Nat → Int32) (lj : Nat → Int64), b < 2147483648 → hN b t → (∀ r t, Q r t → hN (b) t → Q' r t) → wpX5_remainder k 0 t li lj Q → wpX5_remainder (h + k) 0 t li lj Q') := by
  intro k
  induction k with
  | zero => intro b; exact fun _ _ _ _ _ _ hR => False.elim hR
  | succ k ih =>
    intro b
    intro t li lj hb g hQ hR
    have hR : wbX5_remainder_0 (wpX5_remainder k) k t li lj Q := hR
    show wbX5_remainder_0 (wpX5_remainder (h + k)) (h + k) t li lj Q'
    unfold wbX5_remainder_0 at hR ⊢
    exact fun x1 e1 => ⟨fun c2 => ndJ9_floorMod_f86c9 ((hR x1 e1).1 c2) (fun y3_0 h3 => fun x4 e4 => fun x5 e5 => ⟨fun c6 => hQ _ _ (((h3 x4 e4) x5 e5).1 c6) (hN_mono (by omega) g), fun c7 => fun x8 e8 => hQ _ _ ((((h3 x4 e4) x5 e5).2 c7) x8 e8) (hN_mono (by omega) g)⟩), fun c9 => hQ _ _ ((hR x1 e1).2 c9) (hN_mono (by omega) g)⟩
theorem ndX5_remainder {h b k : Nat} {t : XT} {a1 : Int64} {Q Q' : Int64 → XT → Prop} (hh : 300 ≤ h) (hb : b < 2147483648) (g : hN b t) (hR : wqX5_remainder k t a1 Q) (hQ : ∀ r t, Q r t → hN (b) t → Q' r t) : wqX5_remainder (h + k) t a1 Q' := (ngX5_remainder hh Q Q' k b) t _ _ hb g hQ hR
set_option maxHeartbeats 4000000 in
set_option maxRecDepth 100000 in
theorem ngX5_leastCell {h : Nat} (hh : 300 ≤ h) (Q Q' : Int32 → XT → Prop) : ∀ (k b : Nat), (∀ (t : XT) (li : Nat → Int32) (lj : Nat → Int64), b < 2147483648 → hN b t → (∀ r t, Q r t → hN (b) t → Q' r t) → wpX5_leastCell k 0 t li lj Q → wpX5_leastCell (h + k) 0 t li lj Q') ∧ (∀ (t : XT) (li : Nat → Int32) (lj : Nat → Int64), b < 2147483648 → hN b t → (∀ r t, Q r t → hN (b) t → Q' r t) → wpX5_leastCell k 1 t li lj Q → wpX5_leastCell (h + k) 1 t li lj Q') ∧ (∀ (t : XT) (li : Nat → Int32) (lj : Nat → Int64), b < 2147483648 → hN b t → (∀ r t, Q r t → hN (b) t → Q' r t) → wpX5_leastCell k 2 t li lj Q → wpX5_leastCell (h + k) 2 t li lj Q') ∧ (∀ (t : XT) (li : Nat → Int32) (lj : Nat → Int64), b < 2147483648 → hN b t → (∀ r t, Q r t → hN (b) t → Q' r t) → wpX5_leastCell k 3 t li lj Q → wpX5_leastCell (h + k) 3 t li lj Q') ∧ (∀ (t : XT) (li : Nat → Int32) (lj : Nat → Int64), b < 2147483648 → hN b t → (∀ r t, Q r t → hN (b) t → Q' r t) → wpX5_leastCell k 4 t li lj Q → wpX5_leastCell (h + k) 4 t li lj Q') ∧ (∀ (t : XT) (li : Nat → Int32) (lj : Nat → Int64), b < 2147483648 → hN b t → (∀ r t, Q r t → hN (b) t → Q' r t) → wpX5_leastCell k 5 t li lj Q → wpX5_leastCell (h + k) 5 t li lj Q') := by
  intro k
  induction k with
  | zero => intro b; exact ⟨fun _ _ _ _ _ _ hR => False.elim hR, fun _ _ _ _ _ _ hR => False.elim hR, fun _ _ _ _ _ _ hR => False.elim hR, fun _ _ _ _ _ _ hR => False.elim hR, fun _ _ _ _ _ _ hR => False.elim hR, fun _ _ _ _ _ _ hR => False.elim hR⟩
  | succ k ih =>
    intro b
    refine ⟨?_, ?_, ?_, ?_, ?_, ?_⟩
    · intro t li lj hb g hQ hR
      have hR : wbX5_leastCell_0 (wpX5_leastCell k) k t li lj Q := hR
      show wbX5_leastCell_0 (wpX5_leastCell (h + k)) (h + k) t li lj Q'
      unfold wbX5_leastCell_0 at hR ⊢
      exact (ih (b)).2.1 _ _ _ (by omega) g (fun z0 z1 q0 g0 => hQ z0 z1 q0 (hN_mono (by omega) g0)) hR
    · intro t li lj hb g hQ hR
      have hR : wbX5_leastCell_1 (wpX5_leastCell k) k t li lj Q := hR
      show wbX5_leastCell_1 (wpX5_leastCell (h + k)) (h + k) t li lj Q'
      unfold wbX5_leastCell_1 at hR ⊢
      exact ⟨fun c1 => hQ _ _ (hR.1 c1) (hN_mono (by omega) g), fun c2 => (ih (b)).2.2.1 _ _ _ (by omega) g (fun z0 z1 q0 g0 => hQ z0 z1 q0 (hN_mono (by omega) g0)) (hR.2 c2)⟩
    · intro t li lj hb g hQ hR
      have hR : wbX5_leastCell_2 (wpX5_leastCell k) k t li lj Q := hR
      show wbX5_leastCell_2 (wpX5_leastCell (h + k)) (h + k) t li lj Q'
      unfold wbX5_leastCell_2 at hR ⊢
      exact ⟨fun c1 => fun x2 e2 => (ih (b)).2.1 _ _ _ (by omega) g (fun z0 z1 q0 g0 => hQ z0 z1 q0 (hN_mono (by omega) g0)) ((hR.1 c1) x2 e2), fun c3 => fun x4 e4 => fun x5 e5 => ⟨fun c6 => (ih (b)).2.2.2.1 _ _ _ (by omega) g (fun z0 z1 q0 g0 => hQ z0 z1 q0 (hN_mono (by omega) g0)) ((((hR.2 c3) x4 e4) x5 e5).1 c6), fun c7 => ⟨((((hR.2 c3) x4 e4) x5 e5).2 c7).1, fun x8 e8 => fun x9 e9 => ⟨((((((hR.2 c3) x4 e4) x5 e5).2 c7).2 x8 e8) x9 e9).1, fun x10 e10 => fun x11 e11 => fun x12 e12 => ⟨fun c13 => (ih (b)).2.2.2.2.1 _ _ _ (by omega) g (fun z0 z1 q0 g0 => hQ z0 z1 q0 (hN_mono (by omega) g0)) ((((((((((hR.2 c3) x4 e4) x5 e5).2 c7).2 x8 e8) x9 e9).2 x10 e10) x11 e11) x12 e12).1 c13), fun c14 => (ih (b)).2.2.2.1 _ _ _ (by omega) g (fun z0 z1 q0 g0 => hQ z0 z1 q0 (hN_mono (by omega) g0)) ((((((((((hR.2 c3) x4 e4) x5 e5).2 c7).2 x8 e8) x9 e9).2 x10 e10) x11 e11) x12 e12).2 c14)⟩⟩⟩⟩⟩
    · intro t li lj hb g hQ hR
      have hR : wbX5_leastCell_3 (wpX5_leastCell k) k t li lj Q := hR
      show wbX5_leastCell_3 (wpX5_leastCell (h + k)) (h + k) t li lj Q'
      unfold wbX5_leastCell_3 at hR ⊢
      exact (ih (b)).2.2.2.2.1 _ _ _ (by omega) g (fun z0 z1 q0 g0 => hQ z0 z1 q0 (hN_mono (by omega) g0)) hR
    · intro t li lj hb g hQ hR
      have hR : wbX5_leastCell_4 (wpX5_leastCell k) k t li lj Q := hR
      show wbX5_leastCell_4 (wpX5_leastCell (h + k)) (h + k) t li lj Q'
      unfold wbX5_leastCell_4 at hR ⊢
      exact ⟨hR.1, fun x1 e1 => fun x2 e2 => ⟨fun c3 => (ih (b)).2.2.2.2.2 _ _ _ (by omega) g (fun z0 z1 q0 g0 => hQ z0 z1 q0 (hN_mono (by omega) g0)) (((hR.2 x1 e1) x2 e2).1 c3), fun c4 => ⟨fun c5 => (ih (b)).2.2.2.2.2 _ _ _ (by omega) g (fun z0 z1 q0 g0 => hQ z0 z1 q0 (hN_mono (by omega) g0)) ((((hR.2 x1 e1) x2 e2).2 c4).1 c5), fun c6 => (ih (b)).2.2.2.2.2 _ _ _ (by omega) g (fun z0 z1 q0 g0 => hQ z0 z1 q0 (hN_mono (by omega) g0)) ((((hR.2 x1 e1) x2 e2).2 c4).2 c6)⟩⟩⟩
    · intro t li lj hb g hQ hR
      have hR : wbX5_leastCell_5 (wpX5_leastCell k) k t li lj Q := hR
      show wbX5_leastCell_5 (wpX5_leastCell (h + k)) (h + k) t li lj Q'
      unfold wbX5_leastCell_5 at hR ⊢
      exact fun x1 e1 => (ih (b)).2.2.1 _ _ _ (by omega) g (fun z0 z1 q0 g0 => hQ z0 z1 q0 (hN_mono (by omega) g0)) (hR x1 e1)
theorem ndX5_leastCell {h b k : Nat} {t : XT} {a1 : Int32} {Q Q' : Int32 → XT → Prop} (hh : 300 ≤ h) (hb : b < 2147483648) (g : hN b t) (hR : wqX5_leastCell k t a1 Q) (hQ : ∀ r t, Q r t → hN (b) t → Q' r t) : wqX5_leastCell (h + k) t a1 Q' := (ngX5_leastCell hh Q Q' k b).1 t _ _ hb g hQ hR
set_option maxHeartbeats 4000000 in
set_option maxRecDepth 100000 in
theorem ngX5_swapRows_c30 {h : Nat} (hh : 300 ≤ h) (Q Q' : XT → Prop) : ∀ (k b : Nat), (∀ (t : XT) (li : Nat → Int32) (lj : Nat → Int64), b < 2147483648 → hN b t → (∀ t, Q t → hN (b) t → Q' t) → wpX5_swapRows_c30 k 0 t li lj Q → wpX5_swapRows_c30 (h + k) 0 t li lj Q') ∧ (∀ (t : XT) (li : Nat → Int32) (lj : Nat → Int64), b < 2147483648 → hN b t → (∀ t, Q t → hN (b) t → Q' t) → wpX5_swapRows_c30 k 1 t li lj Q → wpX5_swapRows_c30 (h + k) 1 t li lj Q') := by
  intro k
  induction k with
  | zero => intro b; exact ⟨fun _ _ _ _ _ _ hR => False.elim hR, fun _ _ _ _ _ _ hR => False.elim hR⟩
  | succ k ih =>
    intro b
    refine ⟨?_, ?_⟩
    · intro t li lj hb g hQ hR
      have hR : wbX5_swapRows_c30_0 (wpX5_swapRows_c30 k) k t li lj Q := hR
      show wbX5_swapRows_c30_0 (wpX5_swapRows_c30 (h + k)) (h + k) t li lj Q'
      unfold wbX5_swapRows_c30_0 at hR ⊢
      exact (ih (b)).2 _ _ _ (by omega) g (fun z0 q0 g0 => hQ z0 q0 (hN_mono (by omega) g0)) hR
    · intro t li lj hb g hQ hR
      have hR : wbX5_swapRows_c30_1 (wpX5_swapRows_c30 k) k t li lj Q := hR
      show wbX5_swapRows_c30_1 (wpX5_swapRows_c30 (h + k)) (h + k) t li lj Q'
      unfold wbX5_swapRows_c30_1 at hR ⊢
      exact ⟨fun c1 => hQ _ (hR.1 c1) (hN_mono (by omega) g), fun c2 => ⟨fun c3 => hQ _ ((hR.2 c2).1 c3) (hN_mono (by omega) g), fun c4 => fun x5 e5 => fun x6 e6 => ⟨((((hR.2 c2).2 c4) x5 e5) x6 e6).1, fun x7 e7 => fun x8 e8 => fun x9 e9 => fun x10 e10 => fun x11 e11 => ⟨(((((((((hR.2 c2).2 c4) x5 e5) x6 e6).2 x7 e7) x8 e8) x9 e9) x10 e10) x11 e11).1, fun x12 e12 => ⟨((((((((((hR.2 c2).2 c4) x5 e5) x6 e6).2 x7 e7) x8 e8) x9 e9) x10 e10) x11 e11).2 x12 e12).1, fun x13 e13 => have g13 : hN (b) x13 := (by rw [e13]; exact hN_B (by decide) g); fun x14 e14 => fun x15 e15 => ⟨(((((((((((((hR.2 c2).2 c4) x5 e5) x6 e6).2 x7 e7) x8 e8) x9 e9) x10 e10) x11 e11).2 x12 e12).2 x13 e13) x14 e14) x15 e15).1, fun x16 e16 => have g16 : hN (b) x16 := (by rw [e16]; exact hN_B (by decide) g13); fun x17 e17 => (ih (b)).2 _ _ _ (by omega) g16 (fun z0 q0 g0 => hQ z0 q0 (hN_mono (by omega) g0)) (((((((((((((((hR.2 c2).2 c4) x5 e5) x6 e6).2 x7 e7) x8 e8) x9 e9) x10 e10) x11 e11).2 x12 e12).2 x13 e13) x14 e14) x15 e15).2 x16 e16) x17 e17)⟩⟩⟩⟩⟩⟩
theorem ndX5_swapRows_c30 {h b k : Nat} {t : XT} {a2 : Int32} {a3 : Int32} {Q Q' : XT → Prop} (hh : 300 ≤ h) (hb : b < 2147483648) (g : hN b t) (hR : wqX5_swapRows_c30 k t a2 a3 Q) (hQ : ∀ t, Q t → hN (b) t → Q' t) : wqX5_swapRows_c30 (h + k) t a2 a3 Q' := (ngX5_swapRows_c30 hh Q Q' k b).1 t _ _ hb g hQ hR
set_option maxHeartbeats 4000000 in
set_option maxRecDepth 100000 in
theorem ngX5_swapColumns {h : Nat} (hh : 300 ≤ h) (Q Q' : XT → Prop) : ∀ (k b : Nat), (∀ (t : XT) (li : Nat → Int32) (lj : Nat → Int64), b < 2147483648 → hN b t → (∀ t, Q t → hN (b) t → Q' t) → wpX5_swapColumns k 0 t li lj Q → wpX5_swapColumns (h + k) 0 t li lj Q') ∧ (∀ (t : XT) (li : Nat → Int32) (lj : Nat → Int64), b < 2147483648 → hN b t → (∀ t, Q t → hN (b) t → Q' t) → wpX5_swapColumns k 1 t li lj Q → wpX5_swapColumns (h + k) 1 t li lj Q') := by
  intro k
  induction k with
  | zero => intro b; exact ⟨fun _ _ _ _ _ _ hR => False.elim hR, fun _ _ _ _ _ _ hR => False.elim hR⟩
  | succ k ih =>
    intro b
    refine ⟨?_, ?_⟩
    · intro t li lj hb g hQ hR
      have hR : wbX5_swapColumns_0 (wpX5_swapColumns k) k t li lj Q := hR
      show wbX5_swapColumns_0 (wpX5_swapColumns (h + k)) (h + k) t li lj Q'
      unfold wbX5_swapColumns_0 at hR ⊢
      exact (ih (b)).2 _ _ _ (by omega) g (fun z0 q0 g0 => hQ z0 q0 (hN_mono (by omega) g0)) hR
    · intro t li lj hb g hQ hR
      have hR : wbX5_swapColumns_1 (wpX5_swapColumns k) k t li lj Q := hR
      show wbX5_swapColumns_1 (wpX5_swapColumns (h + k)) (h + k) t li lj Q'
      unfold wbX5_swapColumns_1 at hR ⊢
      exact ⟨fun c1 => hQ _ (hR.1 c1) (hN_mono (by omega) g), fun c2 => ⟨fun c3 => hQ _ ((hR.2 c2).1 c3) (hN_mono (by omega) g), fun c4 => fun x5 e5 => fun x6 e6 => ⟨((((hR.2 c2).2 c4) x5 e5) x6 e6).1, fun x7 e7 => fun x8 e8 => fun x9 e9 => fun x10 e10 => fun x11 e11 => ⟨(((((((((hR.2 c2).2 c4) x5 e5) x6 e6).2 x7 e7) x8 e8) x9 e9) x10 e10) x11 e11).1, fun x12 e12 => ⟨((((((((((hR.2 c2).2 c4) x5 e5) x6 e6).2 x7 e7) x8 e8) x9 e9) x10 e10) x11 e11).2 x12 e12).1, fun x13 e13 => have g13 : hN (b) x13 := (by rw [e13]; exact hN_B (by decide) g); fun x14 e14 => fun x15 e15 => ⟨(((((((((((((hR.2 c2).2 c4) x5 e5) x6 e6).2 x7 e7) x8 e8) x9 e9) x10 e10) x11 e11).2 x12 e12).2 x13 e13) x14 e14) x15 e15).1, fun x16 e16 => have g16 : hN (b) x16 := (by rw [e16]; exact hN_B (by decide) g13); fun x17 e17 => (ih (b)).2 _ _ _ (by omega) g16 (fun z0 q0 g0 => hQ z0 q0 (hN_mono (by omega) g0)) (((((((((((((((hR.2 c2).2 c4) x5 e5) x6 e6).2 x7 e7) x8 e8) x9 e9) x10 e10) x11 e11).2 x12 e12).2 x13 e13) x14 e14) x15 e15).2 x16 e16) x17 e17)⟩⟩⟩⟩⟩⟩
theorem ndX5_swapColumns {h b k : Nat} {t : XT} {a1 : Int32} {a2 : Int32} {Q Q' : XT → Prop} (hh : 300 ≤ h) (hb : b < 2147483648) (g : hN b t) (hR : wqX5_swapColumns k t a1 a2 Q) (hQ : ∀ t, Q t → hN (b) t → Q' t) : wqX5_swapColumns (h + k) t a1 a2 Q' := (ngX5_swapColumns hh Q Q' k b).1 t _ _ hb g hQ hR
set_option maxHeartbeats 4000000 in
set_option maxRecDepth 100000 in
theorem ngX5_reduceRows {h : Nat} (hh : 300 ≤ h) (Q Q' : Int32 → XT → Prop) : ∀ (k b : Nat), (∀ (t : XT) (li : Nat → Int32) (lj : Nat → Int64), b < 2147483648 → hN b t → (∀ r t, Q r t → hN (b) t → Q' r t) → wpX5_reduceRows k 0 t li lj Q → wpX5_reduceRows (h + k) 0 t li lj Q') ∧ (∀ (t : XT) (li : Nat → Int32) (lj : Nat → Int64), b < 2147483648 → hN b t → (∀ r t, Q r t → hN (b) t → Q' r t) → wpX5_reduceRows k 1 t li lj Q → wpX5_reduceRows (h + k) 1 t li lj Q') ∧ (∀ (t : XT) (li : Nat → Int32) (lj : Nat → Int64), b < 2147483648 → hN b t → (∀ r t, Q r t → hN (b) t → Q' r t) → wpX5_reduceRows k 2 t li lj Q → wpX5_reduceRows (h + k) 2 t li lj Q') ∧ (∀ (t : XT) (li : Nat → Int32) (lj : Nat → Int64), b < 2147483648 → hN b t → (∀ r t, Q r t → hN (b) t → Q' r t) → wpX5_reduceRows k 3 t li lj Q → wpX5_reduceRows (h + k) 3 t li lj Q') ∧ (∀ (t : XT) (li : Nat → Int32) (lj : Nat → Int64), b < 2147483648 → hN b t → (∀ r t, Q r t → hN (b) t → Q' r t) → wpX5_reduceRows k 4 t li lj Q → wpX5_reduceRows (h + k) 4 t li lj Q') ∧ (∀ (t : XT) (li : Nat → Int32) (lj : Nat → Int64), b < 2147483648 → hN b t → (∀ r t, Q r t → hN (b) t → Q' r t) → wpX5_reduceRows k 5 t li lj Q → wpX5_reduceRows (h + k) 5 t li lj Q') := by
  intro k
  induction k with
  | zero => intro b; exact ⟨fun _ _ _ _ _ _ hR => False.elim hR, fun _ _ _ _ _ _ hR => False.elim hR, fun _ _ _ _ _ _ hR => False.elim hR, fun _ _ _ _ _ _ hR => False.elim hR, fun _ _ _ _ _ _ hR => False.elim hR, fun _ _ _ _ _ _ hR => False.elim hR⟩
  | succ k ih =>
    intro b
    refine ⟨?_, ?_, ?_, ?_, ?_, ?_⟩
    · intro t li lj hb g hQ hR
      have hR : wbX5_reduceRows_0 (wpX5_reduceRows k) k t li lj Q := hR
      show wbX5_reduceRows_0 (wpX5_reduceRows (h + k)) (h + k) t li lj Q'
      unfold wbX5_reduceRows_0 at hR ⊢
      exact fun x1 e1 => (ih (b)).2.1 _ _ _ (by omega) g (fun z0 z1 q0 g0 => hQ z0 z1 q0 (hN_mono (by omega) g0)) (hR x1 e1)
    · intro t li lj hb g hQ hR
      have hR : wbX5_reduceRows_1 (wpX5_reduceRows k) k t li lj Q := hR
      show wbX5_reduceRows_1 (wpX5_reduceRows (h + k)) (h + k) t li lj Q'
      unfold wbX5_reduceRows_1 at hR ⊢
      exact ⟨fun c1 => ⟨(hR.1 c1).1, hQ _ _ (hR.1 c1).2 (hN_mono (by omega) g)⟩, fun c2 => fun x3 e3 => fun x4 e4 => ⟨(((hR.2 c2) x3 e3) x4 e4).1, fun x5 e5 => fun x6 e6 => fun x7 e7 => ⟨((((((hR.2 c2) x3 e3) x4 e4).2 x5 e5) x6 e6) x7 e7).1, fun x8 e8 => ndX5_nearest (((((((hR.2 c2) x3 e3) x4 e4).2 x5 e5) x6 e6) x7 e7).2 x8 e8) (fun y9_0 h9 => (ih (b)).2.2.1 _ _ _ (by omega) g (fun z0 z1 q0 g0 => hQ z0 z1 q0 (hN_mono (by omega) g0)) h9)⟩⟩⟩
    · intro t li lj hb g hQ hR
      have hR : wbX5_reduceRows_2 (wpX5_reduceRows k) k t li lj Q := hR
      show wbX5_reduceRows_2 (wpX5_reduceRows (h + k)) (h + k) t li lj Q'
      unfold wbX5_reduceRows_2 at hR ⊢
      exact ⟨fun c1 => (ih (b)).2.2.2.1 _ _ _ (by omega) g (fun z0 z1 q0 g0 => hQ z0 z1 q0 (hN_mono (by omega) g0)) (hR.1 c1), fun c2 => fun x3 e3 => ⟨fun c4 => (ih (b)).2.2.2.1 _ _ _ (by omega) g (fun z0 z1 q0 g0 => hQ z0 z1 q0 (hN_mono (by omega) g0)) (((hR.2 c2) x3 e3).1 c4), fun c5 => fun x6 e6 => fun x7 e7 => ⟨(((((hR.2 c2) x3 e3).2 c5) x6 e6) x7 e7).1, fun x8 e8 => fun x9 e9 => fun x10 e10 => ⟨((((((((hR.2 c2) x3 e3).2 c5) x6 e6) x7 e7).2 x8 e8) x9 e9) x10 e10).1, fun x11 e11 => fun x12 e12 => fun x13 e13 => ndX5_remainder hh (by omega) g (((((((((((hR.2 c2) x3 e3).2 c5) x6 e6) x7 e7).2 x8 e8) x9 e9) x10 e10).2 x11 e11) x12 e12) x13 e13) (fun y14_0 y14_1 h14 g14 => ⟨h14.1, fun x15 e15 => have g15 : hN (b) x15 := (by rw [e15]; exact hN_B (by decide) g14); fun x16 e16 => (ih (b)).2.2.1 _ _ _ (by omega) g15 (fun z0 z1 q0 g0 => hQ z0 z1 q0 (hN_mono (by omega) g0)) ((h14.2 x15 e15) x16 e16)⟩)⟩⟩⟩⟩
    · intro t li lj hb g hQ hR
      have hR : wbX5_reduceRows_3 (wpX5_reduceRows k) k t li lj Q := hR
      show wbX5_reduceRows_3 (wpX5_reduceRows (h + k)) (h + k) t li lj Q'
      unfold wbX5_reduceRows_3 at hR ⊢
      exact ⟨fun c1 => (ih (b)).2.2.2.2.1 _ _ _ (by omega) g (fun z0 z1 q0 g0 => hQ z0 z1 q0 (hN_mono (by omega) g0)) (hR.1 c1), fun c2 => fun x3 e3 => fun x4 e4 => ⟨(((hR.2 c2) x3 e3) x4 e4).1, fun x5 e5 => fun x6 e6 => ⟨fun c7 => (ih (b)).2.2.2.2.1 _ _ _ (by omega) g (fun z0 z1 q0 g0 => hQ z0 z1 q0 (hN_mono (by omega) g0)) ((((((hR.2 c2) x3 e3) x4 e4).2 x5 e5) x6 e6).1 c7), fun c8 => (ih (b)).2.2.2.2.2 _ _ _ (by omega) g (fun z0 z1 q0 g0 => hQ z0 z1 q0 (hN_mono (by omega) g0)) ((((((hR.2 c2) x3 e3) x4 e4).2 x5 e5) x6 e6).2 c8)⟩⟩⟩
    · intro t li lj hb g hQ hR
      have hR : wbX5_reduceRows_4 (wpX5_reduceRows k) k t li lj Q := hR
      show wbX5_reduceRows_4 (wpX5_reduceRows (h + k)) (h + k) t li lj Q'
      unfold wbX5_reduceRows_4 at hR ⊢
      exact (ih (b)).2.2.2.2.2 _ _ _ (by omega) g (fun z0 z1 q0 g0 => hQ z0 z1 q0 (hN_mono (by omega) g0)) hR
    · intro t li lj hb g hQ hR
      have hR : wbX5_reduceRows_5 (wpX5_reduceRows k) k t li lj Q := hR
      show wbX5_reduceRows_5 (wpX5_reduceRows (h + k)) (h + k) t li lj Q'
      unfold wbX5_reduceRows_5 at hR ⊢
      exact fun x1 e1 => (ih (b)).2.1 _ _ _ (by omega) g (fun z0 z1 q0 g0 => hQ z0 z1 q0 (hN_mono (by omega) g0)) (hR x1 e1)
theorem ndX5_reduceRows {h b k : Nat} {t : XT} {a1 : Int32} {Q Q' : Int32 → XT → Prop} (hh : 300 ≤ h) (hb : b < 2147483648) (g : hN b t) (hR : wqX5_reduceRows k t a1 Q) (hQ : ∀ r t, Q r t → hN (b) t → Q' r t) : wqX5_reduceRows (h + k) t a1 Q' := (ngX5_reduceRows hh Q Q' k b).1 t _ _ hb g hQ hR
