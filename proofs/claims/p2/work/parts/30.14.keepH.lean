set_option maxHeartbeats 4000000 in
set_option maxRecDepth 100000 in
theorem ngX11_level {h : Nat} (hh : 300 ≤ h) (Q Q' : Int32 → XT → Prop) : ∀ (k b : Nat), (∀ (t : XT) (li : Nat → Int32) (lj : Nat → Int64), b < 2147483648 → hN b t → (∀ r t, Q r t → hN (b) t → Q' r t) → wpX11_level k 0 t li lj Q → wpX11_level (h + k) 0 t li lj Q') ∧ (∀ (t : XT) (li : Nat → Int32) (lj : Nat → Int64), b < 2147483648 → hN b t → (∀ r t, Q r t → hN (b) t → Q' r t) → wpX11_level k 1 t li lj Q → wpX11_level (h + k) 1 t li lj Q') := by
  intro k
  induction k with
  | zero => intro b; exact ⟨fun _ _ _ _ _ _ hR => False.elim hR, fun _ _ _ _ _ _ hR => False.elim hR⟩
  | succ k ih =>
    intro b
    refine ⟨?_, ?_⟩
    · intro t li lj hb g hQ hR
      have hR : wbX11_level_0 (wpX11_level k) k t li lj Q := hR
      show wbX11_level_0 (wpX11_level (h + k)) (h + k) t li lj Q'
      unfold wbX11_level_0 at hR ⊢
      exact ⟨fun c1 => (ih (b)).2 _ _ _ (by omega) g (fun z0 z1 q0 g0 => hQ z0 z1 q0 (hN_mono (by omega) g0)) (hR.1 c1), fun c2 => ⟨fun c3 => (ih (b)).2 _ _ _ (by omega) g (fun z0 z1 q0 g0 => hQ z0 z1 q0 (hN_mono (by omega) g0)) ((hR.2 c2).1 c3), fun c4 => ⟨fun c5 => ndX2_upTo hh (by omega) g (((hR.2 c2).2 c4).1 c5) (fun y6_0 y6_1 h6 g6 => ⟨fun c7 => ndX9_eulerOf hh (by omega) g6 (h6.1 c7) (fun y8_0 y8_1 h8 g8 => hQ _ _ h8 (hN_mono (by omega) g8)), fun c9 => ndJ13_bitCount_95d88 (h6.2 c9) (fun y10_0 h10 => hQ _ _ h10 (hN_mono (by omega) g6))⟩), fun c11 => (ih (b)).2 _ _ _ (by omega) g (fun z0 z1 q0 g0 => hQ z0 z1 q0 (hN_mono (by omega) g0)) (((hR.2 c2).2 c4).2 c11)⟩⟩⟩
    · intro t li lj hb g hQ hR
      have hR : wbX11_level_1 (wpX11_level k) k t li lj Q := hR
      show wbX11_level_1 (wpX11_level (h + k)) (h + k) t li lj Q'
      unfold wbX11_level_1 at hR ⊢
      exact hQ _ _ hR (hN_mono (by omega) g)
theorem ndX11_level {h b k : Nat} {t : XT} {a1 : Int32} {a2 : Int32} {Q Q' : Int32 → XT → Prop} (hh : 300 ≤ h) (hb : b < 2147483648) (g : hN b t) (hR : wqX11_level k t a1 a2 Q) (hQ : ∀ r t, Q r t → hN (b) t → Q' r t) : wqX11_level (h + k) t a1 a2 Q' := (ngX11_level hh Q Q' k b).1 t _ _ hb g hQ hR
set_option maxHeartbeats 4000000 in
set_option maxRecDepth 100000 in
theorem ngX9_withFaces {h : Nat} (hh : 300 ≤ h) (Q Q' : Int64 → XT → Prop) : ∀ (k b : Nat), (∀ (t : XT) (li : Nat → Int32) (lj : Nat → Int64), b < 2147483648 → hN b t → (∀ r t, Q r t → hN (b) t → Q' r t) → wpX9_withFaces k 0 t li lj Q → wpX9_withFaces (h + k) 0 t li lj Q') ∧ (∀ (t : XT) (li : Nat → Int32) (lj : Nat → Int64), b < 2147483648 → hN b t → (∀ r t, Q r t → hN (b) t → Q' r t) → wpX9_withFaces k 1 t li lj Q → wpX9_withFaces (h + k) 1 t li lj Q') ∧ (∀ (t : XT) (li : Nat → Int32) (lj : Nat → Int64), b < 2147483648 → hN b t → (∀ r t, Q r t → hN (b) t → Q' r t) → wpX9_withFaces k 2 t li lj Q → wpX9_withFaces (h + k) 2 t li lj Q') := by
  intro k
  induction k with
  | zero => intro b; exact ⟨fun _ _ _ _ _ _ hR => False.elim hR, fun _ _ _ _ _ _ hR => False.elim hR, fun _ _ _ _ _ _ hR => False.elim hR⟩
  | succ k ih =>
    intro b
    refine ⟨?_, ?_, ?_⟩
    · intro t li lj hb g hQ hR
      have hR : wbX9_withFaces_0 (wpX9_withFaces k) k t li lj Q := hR
      show wbX9_withFaces_0 (wpX9_withFaces (h + k)) (h + k) t li lj Q'
      unfold wbX9_withFaces_0 at hR ⊢
      exact fun x1 e1 => (ih (b)).2.1 _ _ _ (by omega) g (fun z0 z1 q0 g0 => hQ z0 z1 q0 (hN_mono (by omega) g0)) (hR x1 e1)
    · intro t li lj hb g hQ hR
      have hR : wbX9_withFaces_1 (wpX9_withFaces k) k t li lj Q := hR
      show wbX9_withFaces_1 (wpX9_withFaces (h + k)) (h + k) t li lj Q'
      unfold wbX9_withFaces_1 at hR ⊢
      exact ⟨fun c1 => hQ _ _ (hR.1 c1) (hN_mono (by omega) g), fun c2 => ndX11_isIn (hR.2 c2) (fun y3_0 h3 => ⟨fun c4 => (ih (b)).2.2 _ _ _ (by omega) g (fun z0 z1 q0 g0 => hQ z0 z1 q0 (hN_mono (by omega) g0)) (h3.1 c4), fun c5 => ⟨(h3.2 c5).1, fun x6 e6 => fun x7 e7 => (ih (b)).2.2 _ _ _ (by omega) g (fun z0 z1 q0 g0 => hQ z0 z1 q0 (hN_mono (by omega) g0)) (((h3.2 c5).2 x6 e6) x7 e7)⟩⟩)⟩
    · intro t li lj hb g hQ hR
      have hR : wbX9_withFaces_2 (wpX9_withFaces k) k t li lj Q := hR
      show wbX9_withFaces_2 (wpX9_withFaces (h + k)) (h + k) t li lj Q'
      unfold wbX9_withFaces_2 at hR ⊢
      exact fun x1 e1 => (ih (b)).2.1 _ _ _ (by omega) g (fun z0 z1 q0 g0 => hQ z0 z1 q0 (hN_mono (by omega) g0)) (hR x1 e1)
theorem ndX9_withFaces {h b k : Nat} {t : XT} {a1 : Int64} {Q Q' : Int64 → XT → Prop} (hh : 300 ≤ h) (hb : b < 2147483648) (g : hN b t) (hR : wqX9_withFaces k t a1 Q) (hQ : ∀ r t, Q r t → hN (b) t → Q' r t) : wqX9_withFaces (h + k) t a1 Q' := (ngX9_withFaces hh Q Q' k b).1 t _ _ hb g hQ hR
set_option maxHeartbeats 4000000 in
set_option maxRecDepth 100000 in
theorem ngX11_levelBetti {h : Nat} (hh : 300 ≤ h) (Q Q' : Int32 → XT → Prop) : ∀ (k b : Nat), (∀ (t : XT) (li : Nat → Int32) (lj : Nat → Int64), b < 2147483648 → hN b t → (∀ r t, Q r t → hN (b) t → Q' r t) → wpX11_levelBetti k 0 t li lj Q → wpX11_levelBetti (h + k) 0 t li lj Q') ∧ (∀ (t : XT) (li : Nat → Int32) (lj : Nat → Int64), b < 2147483648 → hN b t → (∀ r t, Q r t → hN (b) t → Q' r t) → wpX11_levelBetti k 1 t li lj Q → wpX11_levelBetti (h + k) 1 t li lj Q') := by
  intro k
  induction k with
  | zero => intro b; exact ⟨fun _ _ _ _ _ _ hR => False.elim hR, fun _ _ _ _ _ _ hR => False.elim hR⟩
  | succ k ih =>
    intro b
    refine ⟨?_, ?_⟩
    · intro t li lj hb g hQ hR
      have hR : wbX11_levelBetti_0 (wpX11_levelBetti k) k t li lj Q := hR
      show wbX11_levelBetti_0 (wpX11_levelBetti (h + k)) (h + k) t li lj Q'
      unfold wbX11_levelBetti_0 at hR ⊢
      exact ⟨fun c1 => (ih (b)).2 _ _ _ (by omega) g (fun z0 z1 q0 g0 => hQ z0 z1 q0 (hN_mono (by omega) g0)) (hR.1 c1), fun c2 => ndX11_isDim (hR.2 c2) (fun y3_0 h3 => ⟨fun c4 => ndX2_upTo hh (by omega) g (h3.1 c4) (fun y5_0 y5_1 h5 g5 => ndX9_withFaces hh (by omega) g5 h5 (fun y6_0 y6_1 h6 g6 => ndX0_bettiOf hh (by omega) g6 h6 (fun y7_0 y7_1 h7 g7 => hQ _ _ h7 (hN_mono (by omega) g7)))), fun c8 => (ih (b)).2 _ _ _ (by omega) g (fun z0 z1 q0 g0 => hQ z0 z1 q0 (hN_mono (by omega) g0)) (h3.2 c8)⟩)⟩
    · intro t li lj hb g hQ hR
      have hR : wbX11_levelBetti_1 (wpX11_levelBetti k) k t li lj Q := hR
      show wbX11_levelBetti_1 (wpX11_levelBetti (h + k)) (h + k) t li lj Q'
      unfold wbX11_levelBetti_1 at hR ⊢
      exact hQ _ _ hR (hN_mono (by omega) g)
theorem ndX11_levelBetti {h b k : Nat} {t : XT} {a1 : Int32} {a2 : Int32} {Q Q' : Int32 → XT → Prop} (hh : 300 ≤ h) (hb : b < 2147483648) (g : hN b t) (hR : wqX11_levelBetti k t a1 a2 Q) (hQ : ∀ r t, Q r t → hN (b) t → Q' r t) : wqX11_levelBetti (h + k) t a1 a2 Q' := (ngX11_levelBetti hh Q Q' k b).1 t _ _ hb g hQ hR
set_option maxHeartbeats 4000000 in
set_option maxRecDepth 100000 in
theorem ngX4_store_c4 {h : Nat} (hh : 300 ≤ h) (Q Q' : XT → Prop) : ∀ (k b : Nat), (∀ (t : XT) (li : Nat → Int32) (lj : Nat → Int64), b < 2147483648 → hN b t → (∀ t, Q t → hN (b) t → Q' t) → wpX4_store_c4 k 0 t li lj Q → wpX4_store_c4 (h + k) 0 t li lj Q') := by
  intro k
  induction k with
  | zero => intro b; exact fun _ _ _ _ _ _ hR => False.elim hR
  | succ k ih =>
    intro b
    intro t li lj hb g hQ hR
    have hR : wbX4_store_c4_0 (wpX4_store_c4 k) k t li lj Q := hR
    show wbX4_store_c4_0 (wpX4_store_c4 (h + k)) (h + k) t li lj Q'
    unfold wbX4_store_c4_0 at hR ⊢
    exact fun x1 e1 => ⟨(hR x1 e1).1, (hR x1 e1).2.1, (hR x1 e1).2.2.1, (hR x1 e1).2.2.2.1, (hR x1 e1).2.2.2.2.1, fun x2 e2 => have g2 : hN (b) x2 := (by rw [e2]; exact hN_A (by decide) (by decide) (by decide) g); ndX11_bit ((hR x1 e1).2.2.2.2.2 x2 e2) (fun y3_0 h3 => fun x4 e4 => fun x5 e5 => have g5 : hN (b) x5 := (by rw [e5]; exact hN_J (by decide) (by decide) (by decide) g2); hQ _ ((h3 x4 e4) x5 e5) (hN_mono (by omega) g5))⟩
theorem ndX4_store_c4 {h b k : Nat} {t : XT} {a1 : Int32} {Q Q' : XT → Prop} (hh : 300 ≤ h) (hb : b < 2147483648) (g : hN b t) (hR : wqX4_store_c4 k t a1 Q) (hQ : ∀ t, Q t → hN (b) t → Q' t) : wqX4_store_c4 (h + k) t a1 Q' := (ngX4_store_c4 hh Q Q' k b) t _ _ hb g hQ hR
set_option maxHeartbeats 4000000 in
set_option maxRecDepth 100000 in
theorem ngX6_howMany {h : Nat} (hh : 300 ≤ h) (Q Q' : Int32 → XT → Prop) : ∀ (k b : Nat), (∀ (t : XT) (li : Nat → Int32) (lj : Nat → Int64), b < 2147483648 → hN b t → (∀ r t, Q r t → hN (b) t → Q' r t) → wpX6_howMany k 0 t li lj Q → wpX6_howMany (h + k) 0 t li lj Q') := by
  intro k
  induction k with
  | zero => intro b; exact fun _ _ _ _ _ _ hR => False.elim hR
  | succ k ih =>
    intro b
    intro t li lj hb g hQ hR
    have hR : wbX6_howMany_0 (wpX6_howMany k) k t li lj Q := hR
    show wbX6_howMany_0 (wpX6_howMany (h + k)) (h + k) t li lj Q'
    unfold wbX6_howMany_0 at hR ⊢
    exact ndJ13_bitCount_95d88 hR (fun y1_0 h1 => hQ _ _ h1 (hN_mono (by omega) g))
theorem ndX6_howMany {h b k : Nat} {t : XT}  {Q Q' : Int32 → XT → Prop} (hh : 300 ≤ h) (hb : b < 2147483648) (g : hN b t) (hR : wqX6_howMany k t  Q) (hQ : ∀ r t, Q r t → hN (b) t → Q' r t) : wqX6_howMany (h + k) t  Q' := (ngX6_howMany hh Q Q' k b) t _ _ hb g hQ hR
set_option maxHeartbeats 4000000 in
set_option maxRecDepth 100000 in
theorem ngX11_keep {h : Nat} (hh : 300 ≤ h) (Q Q' : Int32 → XT → Prop) : ∀ (k b : Nat), (∀ (t : XT) (li : Nat → Int32) (lj : Nat → Int64), b < 2147483648 → hN b t → (∀ r t, Q r t → hN (b) t → Q' r t) → wpX11_keep k 0 t li lj Q → wpX11_keep (h + k) 0 t li lj Q') ∧ (∀ (t : XT) (li : Nat → Int32) (lj : Nat → Int64), b < 2147483648 → hN b t → (∀ r t, Q r t → hN (b) t → Q' r t) → wpX11_keep k 1 t li lj Q → wpX11_keep (h + k) 1 t li lj Q') := by
  intro k
  induction k with
  | zero => intro b; exact ⟨fun _ _ _ _ _ _ hR => False.elim hR, fun _ _ _ _ _ _ hR => False.elim hR⟩
  | succ k ih =>
    intro b
    refine ⟨?_, ?_⟩
    · intro t li lj hb g hQ hR
      have hR : wbX11_keep_0 (wpX11_keep k) k t li lj Q := hR
      show wbX11_keep_0 (wpX11_keep (h + k)) (h + k) t li lj Q'
      unfold wbX11_keep_0 at hR ⊢
      exact ⟨fun c1 => (ih (b)).2 _ _ _ (by omega) g (fun z0 z1 q0 g0 => hQ z0 z1 q0 (hN_mono (by omega) g0)) (hR.1 c1), fun c2 => ⟨fun c3 => (ih (b)).2 _ _ _ (by omega) g (fun z0 z1 q0 g0 => hQ z0 z1 q0 (hN_mono (by omega) g0)) ((hR.2 c2).1 c3), fun c4 => ⟨fun c5 => ndX4_store_c4 hh (by omega) g (((hR.2 c2).2 c4).1 c5) (fun y6_0 h6 g6 => ndX6_howMany hh (by omega) g6 h6 (fun y7_0 y7_1 h7 g7 => hQ _ _ h7 (hN_mono (by omega) g7))), fun c8 => (ih (b)).2 _ _ _ (by omega) g (fun z0 z1 q0 g0 => hQ z0 z1 q0 (hN_mono (by omega) g0)) (((hR.2 c2).2 c4).2 c8)⟩⟩⟩
    · intro t li lj hb g hQ hR
      have hR : wbX11_keep_1 (wpX11_keep k) k t li lj Q := hR
      show wbX11_keep_1 (wpX11_keep (h + k)) (h + k) t li lj Q'
      unfold wbX11_keep_1 at hR ⊢
      exact hQ _ _ hR (hN_mono (by omega) g)
theorem ndX11_keep {h b k : Nat} {t : XT} {a1 : Int32} {Q Q' : Int32 → XT → Prop} (hh : 300 ≤ h) (hb : b < 2147483648) (g : hN b t) (hR : wqX11_keep k t a1 Q) (hQ : ∀ r t, Q r t → hN (b) t → Q' r t) : wqX11_keep (h + k) t a1 Q' := (ngX11_keep hh Q Q' k b).1 t _ _ hb g hQ hR
set_option maxHeartbeats 4000000 in
set_option maxRecDepth 100000 in
theorem ngX4_shared_c4 {h : Nat} (hh : 300 ≤ h) (Q Q' : Int32 → XT → Prop) : ∀ (k b : Nat), (∀ (t : XT) (li : Nat → Int32) (lj : Nat → Int64), b < 2147483648 → hN b t → (∀ r t, Q r t → hN (b) t → Q' r t) → wpX4_shared_c4 k 0 t li lj Q → wpX4_shared_c4 (h + k) 0 t li lj Q') ∧ (∀ (t : XT) (li : Nat → Int32) (lj : Nat → Int64), b < 2147483648 → hN b t → (∀ r t, Q r t → hN (b) t → Q' r t) → wpX4_shared_c4 k 1 t li lj Q → wpX4_shared_c4 (h + k) 1 t li lj Q') ∧ (∀ (t : XT) (li : Nat → Int32) (lj : Nat → Int64), b < 2147483648 → hN b t → (∀ r t, Q r t → hN (b) t → Q' r t) → wpX4_shared_c4 k 2 t li lj Q → wpX4_shared_c4 (h + k) 2 t li lj Q') := by
  intro k
  induction k with
  | zero => intro b; exact ⟨fun _ _ _ _ _ _ hR => False.elim hR, fun _ _ _ _ _ _ hR => False.elim hR, fun _ _ _ _ _ _ hR => False.elim hR⟩
  | succ k ih =>
    intro b
    refine ⟨?_, ?_, ?_⟩
    · intro t li lj hb g hQ hR
      have hR : wbX4_shared_c4_0 (wpX4_shared_c4 k) k t li lj Q := hR
      show wbX4_shared_c4_0 (wpX4_shared_c4 (h + k)) (h + k) t li lj Q'
      unfold wbX4_shared_c4_0 at hR ⊢
      exact (ih (b)).2.1 _ _ _ (by omega) g (fun z0 z1 q0 g0 => hQ z0 z1 q0 (hN_mono (by omega) g0)) hR
    · intro t li lj hb g hQ hR
      have hR : wbX4_shared_c4_1 (wpX4_shared_c4 k) k t li lj Q := hR
      show wbX4_shared_c4_1 (wpX4_shared_c4 (h + k)) (h + k) t li lj Q'
      unfold wbX4_shared_c4_1 at hR ⊢
      exact ⟨fun c1 => hQ _ _ (hR.1 c1) (hN_mono (by omega) g), fun c2 => ⟨(hR.2 c2).1, fun x3 e3 => ⟨fun c4 => (ih (b)).2.2 _ _ _ (by omega) g (fun z0 z1 q0 g0 => hQ z0 z1 q0 (hN_mono (by omega) g0)) (((hR.2 c2).2 x3 e3).1 c4), fun c5 => ⟨(((hR.2 c2).2 x3 e3).2 c5).1, fun x6 e6 => fun x7 e7 => fun x8 e8 => ⟨((((((hR.2 c2).2 x3 e3).2 c5).2 x6 e6) x7 e7) x8 e8).1, fun x9 e9 => ⟨fun c10 => (ih (b)).2.2 _ _ _ (by omega) g (fun z0 z1 q0 g0 => hQ z0 z1 q0 (hN_mono (by omega) g0)) ((((((((hR.2 c2).2 x3 e3).2 c5).2 x6 e6) x7 e7) x8 e8).2 x9 e9).1 c10), fun c11 => fun x12 e12 => (ih (b)).2.2 _ _ _ (by omega) g (fun z0 z1 q0 g0 => hQ z0 z1 q0 (hN_mono (by omega) g0)) (((((((((hR.2 c2).2 x3 e3).2 c5).2 x6 e6) x7 e7) x8 e8).2 x9 e9).2 c11) x12 e12)⟩⟩⟩⟩⟩⟩
    · intro t li lj hb g hQ hR
      have hR : wbX4_shared_c4_2 (wpX4_shared_c4 k) k t li lj Q := hR
      show wbX4_shared_c4_2 (wpX4_shared_c4 (h + k)) (h + k) t li lj Q'
      unfold wbX4_shared_c4_2 at hR ⊢
      exact fun x1 e1 => (ih (b)).2.1 _ _ _ (by omega) g (fun z0 z1 q0 g0 => hQ z0 z1 q0 (hN_mono (by omega) g0)) (hR x1 e1)
theorem ndX4_shared_c4 {h b k : Nat} {t : XT} {a1 : Int32} {Q Q' : Int32 → XT → Prop} (hh : 300 ≤ h) (hb : b < 2147483648) (g : hN b t) (hR : wqX4_shared_c4 k t a1 Q) (hQ : ∀ r t, Q r t → hN (b) t → Q' r t) : wqX4_shared_c4 (h + k) t a1 Q' := (ngX4_shared_c4 hh Q Q' k b).1 t _ _ hb g hQ hR
set_option maxHeartbeats 4000000 in
set_option maxRecDepth 100000 in
theorem ngX11_same {h : Nat} (hh : 300 ≤ h) (Q Q' : Int32 → XT → Prop) : ∀ (k b : Nat), (∀ (t : XT) (li : Nat → Int32) (lj : Nat → Int64), b < 2147483648 → hN b t → (∀ r t, Q r t → hN (b) t → Q' r t) → wpX11_same k 0 t li lj Q → wpX11_same (h + k) 0 t li lj Q') ∧ (∀ (t : XT) (li : Nat → Int32) (lj : Nat → Int64), b < 2147483648 → hN b t → (∀ r t, Q r t → hN (b) t → Q' r t) → wpX11_same k 1 t li lj Q → wpX11_same (h + k) 1 t li lj Q') := by
  intro k
  induction k with
  | zero => intro b; exact ⟨fun _ _ _ _ _ _ hR => False.elim hR, fun _ _ _ _ _ _ hR => False.elim hR⟩
  | succ k ih =>
    intro b
    refine ⟨?_, ?_⟩
    · intro t li lj hb g hQ hR
      have hR : wbX11_same_0 (wpX11_same k) k t li lj Q := hR
      show wbX11_same_0 (wpX11_same (h + k)) (h + k) t li lj Q'
      unfold wbX11_same_0 at hR ⊢
      exact ⟨fun c1 => (ih (b)).2 _ _ _ (by omega) g (fun z0 z1 q0 g0 => hQ z0 z1 q0 (hN_mono (by omega) g0)) (hR.1 c1), fun c2 => ⟨fun c3 => ndX11_isIn ((hR.2 c2).1 c3) (fun y4_0 h4 => ⟨fun c5 => ndX4_shared_c4 hh (by omega) g (h4.1 c5) (fun y6_0 y6_1 h6 g6 => hQ _ _ h6 (hN_mono (by omega) g6)), fun c7 => hQ _ _ (h4.2 c7) (hN_mono (by omega) g)⟩), fun c8 => (ih (b)).2 _ _ _ (by omega) g (fun z0 z1 q0 g0 => hQ z0 z1 q0 (hN_mono (by omega) g0)) ((hR.2 c2).2 c8)⟩⟩
    · intro t li lj hb g hQ hR
      have hR : wbX11_same_1 (wpX11_same k) k t li lj Q := hR
      show wbX11_same_1 (wpX11_same (h + k)) (h + k) t li lj Q'
      unfold wbX11_same_1 at hR ⊢
      exact hQ _ _ hR (hN_mono (by omega) g)
theorem ndX11_same {h b k : Nat} {t : XT} {a1 : Int32} {Q Q' : Int32 → XT → Prop} (hh : 300 ≤ h) (hb : b < 2147483648) (g : hN b t) (hR : wqX11_same k t a1 Q) (hQ : ∀ r t, Q r t → hN (b) t → Q' r t) : wqX11_same (h + k) t a1 Q' := (ngX11_same hh Q Q' k b).1 t _ _ hb g hQ hR
set_option maxHeartbeats 4000000 in
set_option maxRecDepth 100000 in
theorem ngX9_hangingWith {h : Nat} (hh : 300 ≤ h) (Q Q' : Int64 → XT → Prop) : ∀ (k b : Nat), (∀ (t : XT) (li : Nat → Int32) (lj : Nat → Int64), b < 2147483648 → hN b t → (∀ r t, Q r t → hN (b) t → Q' r t) → wpX9_hangingWith k 0 t li lj Q → wpX9_hangingWith (h + k) 0 t li lj Q') ∧ (∀ (t : XT) (li : Nat → Int32) (lj : Nat → Int64), b < 2147483648 → hN b t → (∀ r t, Q r t → hN (b) t → Q' r t) → wpX9_hangingWith k 1 t li lj Q → wpX9_hangingWith (h + k) 1 t li lj Q') ∧ (∀ (t : XT) (li : Nat → Int32) (lj : Nat → Int64), b < 2147483648 → hN b t → (∀ r t, Q r t → hN (b) t → Q' r t) → wpX9_hangingWith k 2 t li lj Q → wpX9_hangingWith (h + k) 2 t li lj Q') := by
  intro k
  induction k with
  | zero => intro b; exact ⟨fun _ _ _ _ _ _ hR => False.elim hR, fun _ _ _ _ _ _ hR => False.elim hR, fun _ _ _ _ _ _ hR => False.elim hR⟩
  | succ k ih =>
    intro b
    refine ⟨?_, ?_, ?_⟩
    · intro t li lj hb g hQ hR
      have hR : wbX9_hangingWith_0 (wpX9_hangingWith k) k t li lj Q := hR
      show wbX9_hangingWith_0 (wpX9_hangingWith (h + k)) (h + k) t li lj Q'
      unfold wbX9_hangingWith_0 at hR ⊢
      exact ndX11_bit hR (fun y1_0 h1 => (ih (b)).2.1 _ _ _ (by omega) g (fun z0 z1 q0 g0 => hQ z0 z1 q0 (hN_mono (by omega) g0)) h1)
    · intro t li lj hb g hQ hR
      have hR : wbX9_hangingWith_1 (wpX9_hangingWith k) k t li lj Q := hR
      show wbX9_hangingWith_1 (wpX9_hangingWith (h + k)) (h + k) t li lj Q'
      unfold wbX9_hangingWith_1 at hR ⊢
      exact ⟨fun c1 => (ih (b)).2.2 _ _ _ (by omega) g (fun z0 z1 q0 g0 => hQ z0 z1 q0 (hN_mono (by omega) g0)) (hR.1 c1), fun c2 => fun x3 e3 => ⟨fun c4 => (ih (b)).2.2 _ _ _ (by omega) g (fun z0 z1 q0 g0 => hQ z0 z1 q0 (hN_mono (by omega) g0)) (((hR.2 c2) x3 e3).1 c4), fun c5 => ndX11_lowest (((hR.2 c2) x3 e3).2 c5) (fun y6_0 h6 => ⟨h6.1, fun x7 e7 => ⟨(h6.2 x7 e7).1, fun x8 e8 => fun x9 e9 => fun x10 e10 => fun x11 e11 => fun x12 e12 => fun x13 e13 => fun x14 e14 => ndX11_bit ((((((((h6.2 x7 e7).2 x8 e8) x9 e9) x10 e10) x11 e11) x12 e12) x13 e13) x14 e14) (fun y15_0 h15 => fun x16 e16 => fun x17 e17 => fun x18 e18 => (ih (b)).2.1 _ _ _ (by omega) g (fun z0 z1 q0 g0 => hQ z0 z1 q0 (hN_mono (by omega) g0)) (((h15 x16 e16) x17 e17) x18 e18))⟩⟩)⟩⟩
    · intro t li lj hb g hQ hR
      have hR : wbX9_hangingWith_2 (wpX9_hangingWith k) k t li lj Q := hR
      show wbX9_hangingWith_2 (wpX9_hangingWith (h + k)) (h + k) t li lj Q'
      unfold wbX9_hangingWith_2 at hR ⊢
      exact hQ _ _ hR (hN_mono (by omega) g)
theorem ndX9_hangingWith {h b k : Nat} {t : XT} {a1 : Int32} {a2 : Int64} {Q Q' : Int64 → XT → Prop} (hh : 300 ≤ h) (hb : b < 2147483648) (g : hN b t) (hR : wqX9_hangingWith k t a1 a2 Q) (hQ : ∀ r t, Q r t → hN (b) t → Q' r t) : wqX9_hangingWith (h + k) t a1 a2 Q' := (ngX9_hangingWith hh Q Q' k b).1 t _ _ hb g hQ hR
set_option maxHeartbeats 4000000 in
set_option maxRecDepth 100000 in
theorem ngX9_partsOf {h : Nat} (hh : 300 ≤ h) (Q Q' : Int32 → XT → Prop) : ∀ (k b : Nat), (∀ (t : XT) (li : Nat → Int32) (lj : Nat → Int64), b < 2147483648 → hN b t → (∀ r t, Q r t → hN (b) t → Q' r t) → wpX9_partsOf k 0 t li lj Q → wpX9_partsOf (h + k) 0 t li lj Q') ∧ (∀ (t : XT) (li : Nat → Int32) (lj : Nat → Int64), b < 2147483648 → hN b t → (∀ r t, Q r t → hN (b) t → Q' r t) → wpX9_partsOf k 1 t li lj Q → wpX9_partsOf (h + k) 1 t li lj Q') ∧ (∀ (t : XT) (li : Nat → Int32) (lj : Nat → Int64), b < 2147483648 → hN b t → (∀ r t, Q r t → hN (b) t → Q' r t) → wpX9_partsOf k 2 t li lj Q → wpX9_partsOf (h + k) 2 t li lj Q') := by
  intro k
  induction k with
  | zero => intro b; exact ⟨fun _ _ _ _ _ _ hR => False.elim hR, fun _ _ _ _ _ _ hR => False.elim hR, fun _ _ _ _ _ _ hR => False.elim hR⟩
  | succ k ih =>
    intro b
    refine ⟨?_, ?_, ?_⟩
    · intro t li lj hb g hQ hR
      have hR : wbX9_partsOf_0 (wpX9_partsOf k) k t li lj Q := hR
      show wbX9_partsOf_0 (wpX9_partsOf (h + k)) (h + k) t li lj Q'
      unfold wbX9_partsOf_0 at hR ⊢
      exact (ih (b)).2.1 _ _ _ (by omega) g (fun z0 z1 q0 g0 => hQ z0 z1 q0 (hN_mono (by omega) g0)) hR
    · intro t li lj hb g hQ hR
      have hR : wbX9_partsOf_1 (wpX9_partsOf k) k t li lj Q := hR
      show wbX9_partsOf_1 (wpX9_partsOf (h + k)) (h + k) t li lj Q'
      unfold wbX9_partsOf_1 at hR ⊢
      exact fun x1 e1 => ⟨fun c2 => (ih (b)).2.2 _ _ _ (by omega) g (fun z0 z1 q0 g0 => hQ z0 z1 q0 (hN_mono (by omega) g0)) ((hR x1 e1).1 c2), fun c3 => ⟨fun c4 => (ih (b)).2.2 _ _ _ (by omega) g (fun z0 z1 q0 g0 => hQ z0 z1 q0 (hN_mono (by omega) g0)) (((hR x1 e1).2 c3).1 c4), fun c5 => ndX11_lowest (((hR x1 e1).2 c3).2 c5) (fun y6_0 h6 => ndX9_hangingWith hh (by omega) g h6 (fun y7_0 y7_1 h7 g7 => fun x8 e8 => fun x9 e9 => fun x10 e10 => (ih (b)).2.1 _ _ _ (by omega) g7 (fun z0 z1 q0 g0 => hQ z0 z1 q0 (hN_mono (by omega) g0)) (((h7 x8 e8) x9 e9) x10 e10)))⟩⟩
    · intro t li lj hb g hQ hR
      have hR : wbX9_partsOf_2 (wpX9_partsOf k) k t li lj Q := hR
      show wbX9_partsOf_2 (wpX9_partsOf (h + k)) (h + k) t li lj Q'
      unfold wbX9_partsOf_2 at hR ⊢
      exact hQ _ _ hR (hN_mono (by omega) g)
theorem ndX9_partsOf {h b k : Nat} {t : XT} {a1 : Int64} {Q Q' : Int32 → XT → Prop} (hh : 300 ≤ h) (hb : b < 2147483648) (g : hN b t) (hR : wqX9_partsOf k t a1 Q) (hQ : ∀ r t, Q r t → hN (b) t → Q' r t) : wqX9_partsOf (h + k) t a1 Q' := (ngX9_partsOf hh Q Q' k b).1 t _ _ hb g hQ hR
set_option maxHeartbeats 4000000 in
set_option maxRecDepth 100000 in
theorem ngX11_count {h : Nat} (hh : 300 ≤ h) (Q Q' : Int32 → XT → Prop) : ∀ (k b : Nat), (∀ (t : XT) (li : Nat → Int32) (lj : Nat → Int64), b < 2147483648 → hN b t → (∀ r t, Q r t → hN (b) t → Q' r t) → wpX11_count k 0 t li lj Q → wpX11_count (h + k) 0 t li lj Q') := by
  intro k
  induction k with
  | zero => intro b; exact fun _ _ _ _ _ _ hR => False.elim hR
  | succ k ih =>
    intro b
    intro t li lj hb g hQ hR
    have hR : wbX11_count_0 (wpX11_count k) k t li lj Q := hR
    show wbX11_count_0 (wpX11_count (h + k)) (h + k) t li lj Q'
    unfold wbX11_count_0 at hR ⊢
    exact ⟨fun c1 => hQ _ _ (hR.1 c1) (hN_mono (by omega) g), fun c2 => hQ _ _ (hR.2.1 c2) (hN_mono (by omega) g), fun c3 => ndJ13_bitCount_95d88 (hR.2.2.1 c3) (fun y4_0 h4 => hQ _ _ h4 (hN_mono (by omega) g)), fun c5 => ndX9_greatestDim hh (by omega) g (hR.2.2.2.1 c5) (fun y6_0 y6_1 h6 g6 => hQ _ _ h6 (hN_mono (by omega) g6)), fun c7 => ndX6_howMany hh (by omega) g (hR.2.2.2.2.1 c7) (fun y8_0 y8_1 h8 g8 => hQ _ _ h8 (hN_mono (by omega) g8)), fun c9 => ndX11_criticalOnes hh (by omega) g (hR.2.2.2.2.2.1 c9) (fun y10_0 y10_1 h10 g10 => hQ _ _ h10 (hN_mono (by omega) g10)), fun c11 => ndX9_eulerOf hh (by omega) g (hR.2.2.2.2.2.2.1 c11) (fun y12_0 y12_1 h12 g12 => hQ _ _ h12 (hN_mono (by omega) g12)), fun c13 => ndX9_partsOf hh (by omega) g (hR.2.2.2.2.2.2.2.1 c13) (fun y14_0 y14_1 h14 g14 => hQ _ _ h14 (hN_mono (by omega) g14)), fun c15 => hQ _ _ (hR.2.2.2.2.2.2.2.2.1 c15) (hN_mono (by omega) g), fun c16 => hQ _ _ (hR.2.2.2.2.2.2.2.2.2.1 c16) (hN_mono (by omega) g), fun c17 => hQ _ _ (hR.2.2.2.2.2.2.2.2.2.2 c17) (hN_mono (by omega) g)⟩
theorem ndX11_count {h b k : Nat} {t : XT} {a1 : Int32} {Q Q' : Int32 → XT → Prop} (hh : 300 ≤ h) (hb : b < 2147483648) (g : hN b t) (hR : wqX11_count k t a1 Q) (hQ : ∀ r t, Q r t → hN (b) t → Q' r t) : wqX11_count (h + k) t a1 Q' := (ngX11_count hh Q Q' k b) t _ _ hb g hQ hR
