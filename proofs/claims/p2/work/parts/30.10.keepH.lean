/-! ===== the class: every method but complex keeps hN ===== -/
theorem ndJ6_bitCount_0f7a4 {h k : Nat} {a0 : Int32} {Q Q' : Int32 → Prop} (hR : wqJ6_bitCount_0f7a4 k a0 Q) (hQ : ∀ r, Q r → Q' r) : wqJ6_bitCount_0f7a4 (h + k) a0 Q' := wmJ6_bitCount_0f7a4 (Nat.le_add_left k h) hQ hR
theorem ndX8_fault {h k : Nat} {a0 : Int32} {a1 : Int32} {Q Q' : Int32 → Prop} (hR : wqX8_fault k a0 a1 Q) (hQ : ∀ r, Q r → Q' r) : wqX8_fault (h + k) a0 a1 Q' := wmX8_fault (Nat.le_add_left k h) hQ hR
theorem ndX8_isLetter {h k : Nat} {a0 : Int32} {Q Q' : Int32 → Prop} (hR : wqX8_isLetter k a0 Q) (hQ : ∀ r, Q r → Q' r) : wqX8_isLetter (h + k) a0 Q' := wmX8_isLetter (Nat.le_add_left k h) hQ hR
theorem ndX11_bit {h k : Nat} {a0 : Int32} {Q Q' : Int64 → Prop} (hR : wqX11_bit k a0 Q) (hQ : ∀ r, Q r → Q' r) : wqX11_bit (h + k) a0 Q' := wmX11_bit (Nat.le_add_left k h) hQ hR
theorem ndX11_isIn {h k : Nat} {a0 : Int64} {a1 : Int32} {Q Q' : Int32 → Prop} (hR : wqX11_isIn k a0 a1 Q) (hQ : ∀ r, Q r → Q' r) : wqX11_isIn (h + k) a0 a1 Q' := wmX11_isIn (Nat.le_add_left k h) hQ hR
theorem ndJ13_bitCount_95d88 {h k : Nat} {a0 : Int64} {Q Q' : Int32 → Prop} (hR : wqJ13_bitCount_95d88 k a0 Q) (hQ : ∀ r, Q r → Q' r) : wqJ13_bitCount_95d88 (h + k) a0 Q' := wmJ13_bitCount_95d88 (Nat.le_add_left k h) hQ hR
theorem ndX11_lowest {h k : Nat} {a0 : Int64} {Q Q' : Int32 → Prop} (hR : wqX11_lowest k a0 Q) (hQ : ∀ r, Q r → Q' r) : wqX11_lowest (h + k) a0 Q' := wmX11_lowest (Nat.le_add_left k h) hQ hR
theorem ndX11_nth {h k : Nat} {a0 : Int64} {a1 : Int32} {Q Q' : Int32 → Prop} (hR : wqX11_nth k a0 a1 Q) (hQ : ∀ r, Q r → Q' r) : wqX11_nth (h + k) a0 a1 Q' := wmX11_nth (Nat.le_add_left k h) hQ hR
theorem ndX11_isDim {h k : Nat} {a0 : Int32} {Q Q' : Int32 → Prop} (hR : wqX11_isDim k a0 Q) (hQ : ∀ r, Q r → Q' r) : wqX11_isDim (h + k) a0 Q' := wmX11_isDim (Nat.le_add_left k h) hQ hR
theorem ndX11_listed {h k : Nat} {a0 : Int64} {a1 : Int32} {Q Q' : Int32 → Prop} (hR : wqX11_listed k a0 a1 Q) (hQ : ∀ r, Q r → Q' r) : wqX11_listed (h + k) a0 a1 Q' := wmX11_listed (Nat.le_add_left k h) hQ hR
theorem ndJ9_floorMod_f86c9 {h k : Nat} {a0 : Int64} {a1 : Int64} {Q Q' : Int64 → Prop} (hR : wqJ9_floorMod_f86c9 k a0 a1 Q) (hQ : ∀ r, Q r → Q' r) : wqJ9_floorMod_f86c9 (h + k) a0 a1 Q' := wmJ9_floorMod_f86c9 (Nat.le_add_left k h) hQ hR
theorem ndJ9_floorDiv_f86c9 {h k : Nat} {a0 : Int64} {a1 : Int64} {Q Q' : Int64 → Prop} (hR : wqJ9_floorDiv_f86c9 k a0 a1 Q) (hQ : ∀ r, Q r → Q' r) : wqJ9_floorDiv_f86c9 (h + k) a0 a1 Q' := wmJ9_floorDiv_f86c9 (Nat.le_add_left k h) hQ hR
theorem ndX5_nearest {h k : Nat} {a0 : Int64} {a1 : Int64} {Q Q' : Int64 → Prop} (hR : wqX5_nearest k a0 a1 Q) (hQ : ∀ r, Q r → Q' r) : wqX5_nearest (h + k) a0 a1 Q' := wmX5_nearest (Nat.le_add_left k h) hQ hR
theorem ndX5_gcd {h k : Nat} {a0 : Int64} {a1 : Int64} {Q Q' : Int64 → Prop} (hR : wqX5_gcd k a0 a1 Q) (hQ : ∀ r, Q r → Q' r) : wqX5_gcd (h + k) a0 a1 Q' := wmX5_gcd (Nat.le_add_left k h) hQ hR
set_option maxHeartbeats 4000000 in
set_option maxRecDepth 100000 in
theorem ngX10_append {h : Nat} (hh : 300 ≤ h) (Q Q' : XT → Prop) : ∀ (k b : Nat), (∀ (t : XT) (li : Nat → Int32) (lj : Nat → Int64), b < 2147483648 → hN b t → (∀ t, Q t → hN (b) t → Q' t) → wpX10_append k 0 t li lj Q → wpX10_append (h + k) 0 t li lj Q') ∧ (∀ (t : XT) (li : Nat → Int32) (lj : Nat → Int64), b < 2147483648 → hN b t → (∀ t, Q t → hN (b) t → Q' t) → wpX10_append k 1 t li lj Q → wpX10_append (h + k) 1 t li lj Q') := by
  intro k
  induction k with
  | zero => intro b; exact ⟨fun _ _ _ _ _ _ hR => False.elim hR, fun _ _ _ _ _ _ hR => False.elim hR⟩
  | succ k ih =>
    intro b
    refine ⟨?_, ?_⟩
    · intro t li lj hb g hQ hR
      have hR : wbX10_append_0 (wpX10_append k) k t li lj Q := hR
      show wbX10_append_0 (wpX10_append (h + k)) (h + k) t li lj Q'
      unfold wbX10_append_0 at hR ⊢
      exact (ih (b)).2 _ _ _ (by omega) g (fun z0 q0 g0 => hQ z0 q0 (hN_mono (by omega) g0)) hR
    · intro t li lj hb g hQ hR
      have hR : wbX10_append_1 (wpX10_append k) k t li lj Q := hR
      show wbX10_append_1 (wpX10_append (h + k)) (h + k) t li lj Q'
      unfold wbX10_append_1 at hR ⊢
      exact ⟨fun c1 => hQ _ (hR.1 c1) (hN_mono (by omega) g), fun c2 => ⟨fun c3 => hQ _ ((hR.2 c2).1 c3) (hN_mono (by omega) g), fun c4 => fun x5 e5 => fun x6 e6 => ⟨((((hR.2 c2).2 c4) x5 e5) x6 e6).1, fun x7 e7 => have g7 : hN (b) x7 := (by rw [e7]; exact hN_A (by decide) (by decide) (by decide) g); fun x8 e8 => fun x9 e9 => have g9 : hN (b) x9 := (by rw [e9]; exact hN_I (by decide) (by decide) (by decide) (by decide) g7); fun x10 e10 => (ih (b)).2 _ _ _ (by omega) g9 (fun z0 q0 g0 => hQ z0 q0 (hN_mono (by omega) g0)) ((((((((hR.2 c2).2 c4) x5 e5) x6 e6).2 x7 e7) x8 e8) x9 e9) x10 e10)⟩⟩⟩
theorem ndX10_append {h b k : Nat} {t : XT} {a1 : Int32} {Q Q' : XT → Prop} (hh : 300 ≤ h) (hb : b < 2147483648) (g : hN b t) (hR : wqX10_append k t a1 Q) (hQ : ∀ t, Q t → hN (b) t → Q' t) : wqX10_append (h + k) t a1 Q' := (ngX10_append hh Q Q' k b).1 t _ _ hb g hQ hR
set_option maxHeartbeats 4000000 in
set_option maxRecDepth 100000 in
theorem ngX11_feed {h : Nat} (hh : 300 ≤ h) (Q Q' : Int32 → XT → Prop) : ∀ (k b : Nat), (∀ (t : XT) (li : Nat → Int32) (lj : Nat → Int64), b < 2147483648 → hN b t → (∀ r t, Q r t → hN (b) t → Q' r t) → wpX11_feed k 0 t li lj Q → wpX11_feed (h + k) 0 t li lj Q') := by
  intro k
  induction k with
  | zero => intro b; exact fun _ _ _ _ _ _ hR => False.elim hR
  | succ k ih =>
    intro b
    intro t li lj hb g hQ hR
    have hR : wbX11_feed_0 (wpX11_feed k) k t li lj Q := hR
    show wbX11_feed_0 (wpX11_feed (h + k)) (h + k) t li lj Q'
    unfold wbX11_feed_0 at hR ⊢
    exact fun x1 e1 => ⟨fun c2 => ndX10_append hh (by omega) g ((hR x1 e1).1 c2) (fun y3_0 h3 g3 => ndX10_append hh (by omega) g3 h3 (fun y4_0 h4 g4 => ndX10_append hh (by omega) g4 h4 (fun y5_0 h5 g5 => ndX10_append hh (by omega) g5 h5 (fun y6_0 h6 g6 => ndX10_append hh (by omega) g6 h6 (fun y7_0 h7 g7 => hQ _ _ h7 (hN_mono (by omega) g7)))))), fun c8 => hQ _ _ ((hR x1 e1).2 c8) (hN_mono (by omega) g)⟩
theorem ndX11_feed {h b k : Nat} {t : XT} {a1 : Int32} {a2 : Int32} {a3 : Int32} {a4 : Int32} {a5 : Int32} {Q Q' : Int32 → XT → Prop} (hh : 300 ≤ h) (hb : b < 2147483648) (g : hN b t) (hR : wqX11_feed k t a1 a2 a3 a4 a5 Q) (hQ : ∀ r t, Q r t → hN (b) t → Q' r t) : wqX11_feed (h + k) t a1 a2 a3 a4 a5 Q' := (ngX11_feed hh Q Q' k b) t _ _ hb g hQ hR
set_option maxHeartbeats 4000000 in
set_option maxRecDepth 100000 in
theorem ngX11_end {h : Nat} (hh : 300 ≤ h) (Q Q' : Int32 → XT → Prop) : ∀ (k b : Nat), (∀ (t : XT) (li : Nat → Int32) (lj : Nat → Int64), b < 2147483648 → hN b t → (∀ r t, Q r t → hN (b) t → Q' r t) → wpX11_end k 0 t li lj Q → wpX11_end (h + k) 0 t li lj Q') ∧ (∀ (t : XT) (li : Nat → Int32) (lj : Nat → Int64), b < 2147483648 → hN b t → (∀ r t, Q r t → hN (b) t → Q' r t) → wpX11_end k 1 t li lj Q → wpX11_end (h + k) 1 t li lj Q') := by
  intro k
  induction k with
  | zero => intro b; exact ⟨fun _ _ _ _ _ _ hR => False.elim hR, fun _ _ _ _ _ _ hR => False.elim hR⟩
  | succ k ih =>
    intro b
    refine ⟨?_, ?_⟩
    · intro t li lj hb g hQ hR
      have hR : wbX11_end_0 (wpX11_end k) k t li lj Q := hR
      show wbX11_end_0 (wpX11_end (h + k)) (h + k) t li lj Q'
      unfold wbX11_end_0 at hR ⊢
      exact ⟨fun c1 => (ih (b)).2 _ _ _ (by omega) g (fun z0 z1 q0 g0 => hQ z0 z1 q0 (hN_mono (by omega) g0)) (hR.1 c1), fun c2 => ⟨fun c3 => fun x4 e4 => have g4 : hN (b) x4 := (by rw [e4]; exact hN_I (by decide) (by decide) (by decide) (by decide) g); hQ _ _ (((hR.2 c2).1 c3) x4 e4) (hN_mono (by omega) g4), fun c5 => (ih (b)).2 _ _ _ (by omega) g (fun z0 z1 q0 g0 => hQ z0 z1 q0 (hN_mono (by omega) g0)) ((hR.2 c2).2 c5)⟩⟩
    · intro t li lj hb g hQ hR
      have hR : wbX11_end_1 (wpX11_end k) k t li lj Q := hR
      show wbX11_end_1 (wpX11_end (h + k)) (h + k) t li lj Q'
      unfold wbX11_end_1 at hR ⊢
      exact hQ _ _ hR (hN_mono (by omega) g)
theorem ndX11_end {h b k : Nat} {t : XT} {a1 : Int32} {Q Q' : Int32 → XT → Prop} (hh : 300 ≤ h) (hb : b < 2147483648) (g : hN b t) (hR : wqX11_end k t a1 Q) (hQ : ∀ r t, Q r t → hN (b) t → Q' r t) : wqX11_end (h + k) t a1 Q' := (ngX11_end hh Q Q' k b).1 t _ _ hb g hQ hR
set_option maxHeartbeats 4000000 in
set_option maxRecDepth 100000 in
theorem ngX10_at {h : Nat} (hh : 300 ≤ h) (Q Q' : Int32 → XT → Prop) : ∀ (k b : Nat), (∀ (t : XT) (li : Nat → Int32) (lj : Nat → Int64), b < 2147483648 → hN b t → (∀ r t, Q r t → hN (b) t → Q' r t) → wpX10_at k 0 t li lj Q → wpX10_at (h + k) 0 t li lj Q') ∧ (∀ (t : XT) (li : Nat → Int32) (lj : Nat → Int64), b < 2147483648 → hN b t → (∀ r t, Q r t → hN (b) t → Q' r t) → wpX10_at k 1 t li lj Q → wpX10_at (h + k) 1 t li lj Q') := by
  intro k
  induction k with
  | zero => intro b; exact ⟨fun _ _ _ _ _ _ hR => False.elim hR, fun _ _ _ _ _ _ hR => False.elim hR⟩
  | succ k ih =>
    intro b
    refine ⟨?_, ?_⟩
    · intro t li lj hb g hQ hR
      have hR : wbX10_at_0 (wpX10_at k) k t li lj Q := hR
      show wbX10_at_0 (wpX10_at (h + k)) (h + k) t li lj Q'
      unfold wbX10_at_0 at hR ⊢
      exact ⟨fun c1 => (ih (b)).2 _ _ _ (by omega) g (fun z0 z1 q0 g0 => hQ z0 z1 q0 (hN_mono (by omega) g0)) (hR.1 c1), fun c2 => ⟨fun c3 => (ih (b)).2 _ _ _ (by omega) g (fun z0 z1 q0 g0 => hQ z0 z1 q0 (hN_mono (by omega) g0)) ((hR.2 c2).1 c3), fun c4 => ⟨((hR.2 c2).2 c4).1, fun x5 e5 => hQ _ _ (((hR.2 c2).2 c4).2 x5 e5) (hN_mono (by omega) g)⟩⟩⟩
    · intro t li lj hb g hQ hR
      have hR : wbX10_at_1 (wpX10_at k) k t li lj Q := hR
      show wbX10_at_1 (wpX10_at (h + k)) (h + k) t li lj Q'
      unfold wbX10_at_1 at hR ⊢
      exact hQ _ _ hR (hN_mono (by omega) g)
theorem ndX10_at {h b k : Nat} {t : XT} {a1 : Int32} {Q Q' : Int32 → XT → Prop} (hh : 300 ≤ h) (hb : b < 2147483648) (g : hN b t) (hR : wqX10_at k t a1 Q) (hQ : ∀ r t, Q r t → hN (b) t → Q' r t) : wqX10_at (h + k) t a1 Q' := (ngX10_at hh Q Q' k b).1 t _ _ hb g hQ hR
set_option maxHeartbeats 4000000 in
set_option maxRecDepth 100000 in
theorem ngX8_skipBlanks_c1 {h : Nat} (hh : 300 ≤ h) (Q Q' : XT → Prop) : ∀ (k b : Nat), (∀ (t : XT) (li : Nat → Int32) (lj : Nat → Int64), b < 2147483648 → hN b t → (∀ t, Q t → hN (b) t → Q' t) → wpX8_skipBlanks_c1 k 0 t li lj Q → wpX8_skipBlanks_c1 (h + k) 0 t li lj Q') := by
  intro k
  induction k with
  | zero => intro b; exact fun _ _ _ _ _ _ hR => False.elim hR
  | succ k ih =>
    intro b
    intro t li lj hb g hQ hR
    have hR : wbX8_skipBlanks_c1_0 (wpX8_skipBlanks_c1 k) k t li lj Q := hR
    show wbX8_skipBlanks_c1_0 (wpX8_skipBlanks_c1 (h + k)) (h + k) t li lj Q'
    unfold wbX8_skipBlanks_c1_0 at hR ⊢
    exact ⟨fun c1 => hQ _ (hR.1 c1) (hN_mono (by omega) g), fun c2 => ndX10_at hh (by omega) g (hR.2 c2) (fun y3_0 y3_1 h3 g3 => ⟨fun c4 => hQ _ (h3.1 c4) (hN_mono (by omega) g3), fun c5 => fun x6 e6 => fun x7 e7 => have g7 : hN (b) x7 := (by rw [e7]; exact hN_I (by decide) (by decide) (by decide) (by decide) g3); (ih (b)) _ _ _ (by omega) g7 (fun z0 q0 g0 => hQ z0 q0 (hN_mono (by omega) g0)) (((h3.2 c5) x6 e6) x7 e7)⟩)⟩
theorem ndX8_skipBlanks_c1 {h b k : Nat} {t : XT}  {Q Q' : XT → Prop} (hh : 300 ≤ h) (hb : b < 2147483648) (g : hN b t) (hR : wqX8_skipBlanks_c1 k t  Q) (hQ : ∀ t, Q t → hN (b) t → Q' t) : wqX8_skipBlanks_c1 (h + k) t  Q' := (ngX8_skipBlanks_c1 hh Q Q' k b) t _ _ hb g hQ hR
set_option maxHeartbeats 4000000 in
set_option maxRecDepth 100000 in
theorem ngX8_tell {h : Nat} (hh : 300 ≤ h) (Q Q' : XT → Prop) : ∀ (k b : Nat), (∀ (t : XT) (li : Nat → Int32) (lj : Nat → Int64), b < 2147483648 → hN b t → (∀ t, Q t → hN (b) t → Q' t) → wpX8_tell k 0 t li lj Q → wpX8_tell (h + k) 0 t li lj Q') ∧ (∀ (t : XT) (li : Nat → Int32) (lj : Nat → Int64), b < 2147483648 → hN b t → (∀ t, Q t → hN (b) t → Q' t) → wpX8_tell k 1 t li lj Q → wpX8_tell (h + k) 1 t li lj Q') ∧ (∀ (t : XT) (li : Nat → Int32) (lj : Nat → Int64), b < 2147483648 → hN b t → (∀ t, Q t → hN (b) t → Q' t) → wpX8_tell k 2 t li lj Q → wpX8_tell (h + k) 2 t li lj Q') := by
  intro k
  induction k with
  | zero => intro b; exact ⟨fun _ _ _ _ _ _ hR => False.elim hR, fun _ _ _ _ _ _ hR => False.elim hR, fun _ _ _ _ _ _ hR => False.elim hR⟩
  | succ k ih =>
    intro b
    refine ⟨?_, ?_, ?_⟩
    · intro t li lj hb g hQ hR
      have hR : wbX8_tell_0 (wpX8_tell k) k t li lj Q := hR
      show wbX8_tell_0 (wpX8_tell (h + k)) (h + k) t li lj Q'
      unfold wbX8_tell_0 at hR ⊢
      exact (ih (b)).2.1 _ _ _ (by omega) g (fun z0 q0 g0 => hQ z0 q0 (hN_mono (by omega) g0)) hR
    · intro t li lj hb g hQ hR
      have hR : wbX8_tell_1 (wpX8_tell k) k t li lj Q := hR
      show wbX8_tell_1 (wpX8_tell (h + k)) (h + k) t li lj Q'
      unfold wbX8_tell_1 at hR ⊢
      exact ⟨fun c1 => hQ _ (hR.1 c1) (hN_mono (by omega) g), fun c2 => ⟨fun c3 => hQ _ ((hR.2 c2).1 c3) (hN_mono (by omega) g), fun c4 => fun x5 e5 => fun x6 e6 => ⟨fun c7 => (ih (b)).2.2 _ _ _ (by omega) g (fun z0 q0 g0 => hQ z0 q0 (hN_mono (by omega) g0)) (((((hR.2 c2).2 c4) x5 e5) x6 e6).1 c7), fun c8 => ⟨(((((hR.2 c2).2 c4) x5 e5) x6 e6).2 c8).1, fun x9 e9 => ⟨fun c10 => (ih (b)).2.2 _ _ _ (by omega) g (fun z0 q0 g0 => hQ z0 q0 (hN_mono (by omega) g0)) (((((((hR.2 c2).2 c4) x5 e5) x6 e6).2 c8).2 x9 e9).1 c10), fun c11 => ⟨(((((((hR.2 c2).2 c4) x5 e5) x6 e6).2 c8).2 x9 e9).2 c11).1, fun x12 e12 => have g12 : hN (b) x12 := (by rw [e12]; exact hN_A (by decide) (by decide) (by decide) g); fun x13 e13 => fun x14 e14 => have g14 : hN (b) x14 := (by rw [e14]; exact hN_I (by decide) (by decide) (by decide) (by decide) g12); (ih (b)).2.2 _ _ _ (by omega) g14 (fun z0 q0 g0 => hQ z0 q0 (hN_mono (by omega) g0)) ((((((((((hR.2 c2).2 c4) x5 e5) x6 e6).2 c8).2 x9 e9).2 c11).2 x12 e12) x13 e13) x14 e14)⟩⟩⟩⟩⟩⟩
    · intro t li lj hb g hQ hR
      have hR : wbX8_tell_2 (wpX8_tell k) k t li lj Q := hR
      show wbX8_tell_2 (wpX8_tell (h + k)) (h + k) t li lj Q'
      unfold wbX8_tell_2 at hR ⊢
      exact fun x1 e1 => (ih (b)).2.1 _ _ _ (by omega) g (fun z0 q0 g0 => hQ z0 q0 (hN_mono (by omega) g0)) (hR x1 e1)
theorem ndX8_tell {h b k : Nat} {t : XT} {a1 : Int32} {Q Q' : XT → Prop} (hh : 300 ≤ h) (hb : b < 2147483648) (g : hN b t) (hR : wqX8_tell k t a1 Q) (hQ : ∀ t, Q t → hN (b) t → Q' t) : wqX8_tell (h + k) t a1 Q' := (ngX8_tell hh Q Q' k b).1 t _ _ hb g hQ hR
set_option maxHeartbeats 4000000 in
set_option maxRecDepth 100000 in
theorem ngX8_readFacet_c1 {h : Nat} (hh : 300 ≤ h) (Q Q' : Int32 → XT → Prop) : ∀ (k b : Nat), (∀ (t : XT) (li : Nat → Int32) (lj : Nat → Int64), b < 2147483648 → hN b t → (∀ r t, Q r t → hN (b) t → Q' r t) → wpX8_readFacet_c1 k 0 t li lj Q → wpX8_readFacet_c1 (h + k) 0 t li lj Q') ∧ (∀ (t : XT) (li : Nat → Int32) (lj : Nat → Int64), b < 2147483648 → hN b t → (∀ r t, Q r t → hN (b) t → Q' r t) → wpX8_readFacet_c1 k 1 t li lj Q → wpX8_readFacet_c1 (h + k) 1 t li lj Q') ∧ (∀ (t : XT) (li : Nat → Int32) (lj : Nat → Int64), b < 2147483648 → hN b t → (∀ r t, Q r t → hN (b) t → Q' r t) → wpX8_readFacet_c1 k 2 t li lj Q → wpX8_readFacet_c1 (h + k) 2 t li lj Q') := by
  intro k
  induction k with
  | zero => intro b; exact ⟨fun _ _ _ _ _ _ hR => False.elim hR, fun _ _ _ _ _ _ hR => False.elim hR, fun _ _ _ _ _ _ hR => False.elim hR⟩
  | succ k ih =>
    intro b
    refine ⟨?_, ?_, ?_⟩
    · intro t li lj hb g hQ hR
      have hR : wbX8_readFacet_c1_0 (wpX8_readFacet_c1 k) k t li lj Q := hR
      show wbX8_readFacet_c1_0 (wpX8_readFacet_c1 (h + k)) (h + k) t li lj Q'
      unfold wbX8_readFacet_c1_0 at hR ⊢
      exact ndX10_at hh (by omega) g hR (fun y1_0 y1_1 h1 g1 => ndX8_isLetter h1 (fun y2_0 h2 => ⟨fun c3 => ⟨fun c4 => (ih (b)).2.1 _ _ _ (by omega) g1 (fun z0 z1 q0 g0 => hQ z0 z1 q0 (hN_mono (by omega) g0)) ((h2.1 c3).1 c4), fun c5 => ndX8_fault ((h2.1 c3).2 c5) (fun y6_0 h6 => hQ _ _ h6 (hN_mono (by omega) g1))⟩, fun c7 => ndX8_fault (h2.2 c7) (fun y8_0 h8 => hQ _ _ h8 (hN_mono (by omega) g1))⟩))
    · intro t li lj hb g hQ hR
      have hR : wbX8_readFacet_c1_1 (wpX8_readFacet_c1 k) k t li lj Q := hR
      show wbX8_readFacet_c1_1 (wpX8_readFacet_c1 (h + k)) (h + k) t li lj Q'
      unfold wbX8_readFacet_c1_1 at hR ⊢
      exact ⟨fun c1 => (ih (b)).2.2 _ _ _ (by omega) g (fun z0 z1 q0 g0 => hQ z0 z1 q0 (hN_mono (by omega) g0)) (hR.1 c1), fun c2 => ndX10_at hh (by omega) g (hR.2 c2) (fun y3_0 y3_1 h3 g3 => ndX8_isLetter h3 (fun y4_0 h4 => ⟨fun c5 => (ih (b)).2.2 _ _ _ (by omega) g3 (fun z0 z1 q0 g0 => hQ z0 z1 q0 (hN_mono (by omega) g0)) (h4.1 c5), fun c6 => ndX10_at hh (by omega) g3 (h4.2 c6) (fun y7_0 y7_1 h7 g7 => fun x8 e8 => fun x9 e9 => fun x10 e10 => ⟨fun c11 => ndJ6_bitCount_0f7a4 ((((h7 x8 e8) x9 e9) x10 e10).1 c11) (fun y12_0 h12 => ⟨fun c13 => fun x14 e14 => fun x15 e15 => fun x16 e16 => have g16 : hN (b) x16 := (by rw [e16]; exact hN_I (by decide) (by decide) (by decide) (by decide) g7); (ih (b)).2.1 _ _ _ (by omega) g16 (fun z0 z1 q0 g0 => hQ z0 z1 q0 (hN_mono (by omega) g0)) ((((h12.1 c13) x14 e14) x15 e15) x16 e16), fun c17 => ndX8_fault (h12.2 c17) (fun y18_0 h18 => hQ _ _ h18 (hN_mono (by omega) g7))⟩), fun c19 => ndX8_fault ((((h7 x8 e8) x9 e9) x10 e10).2 c19) (fun y20_0 h20 => hQ _ _ h20 (hN_mono (by omega) g7))⟩)⟩))⟩
    · intro t li lj hb g hQ hR
      have hR : wbX8_readFacet_c1_2 (wpX8_readFacet_c1 k) k t li lj Q := hR
      show wbX8_readFacet_c1_2 (wpX8_readFacet_c1 (h + k)) (h + k) t li lj Q'
      unfold wbX8_readFacet_c1_2 at hR ⊢
      exact ndX8_tell hh (by omega) g hR (fun y1_0 h1 g1 => ⟨fun c2 => hQ _ _ (h1.1 c2) (hN_mono (by omega) g1), fun c3 => ndX8_fault (h1.2 c3) (fun y4_0 h4 => hQ _ _ h4 (hN_mono (by omega) g1))⟩)
theorem ndX8_readFacet_c1 {h b k : Nat} {t : XT} {a2 : Int32} {Q Q' : Int32 → XT → Prop} (hh : 300 ≤ h) (hb : b < 2147483648) (g : hN b t) (hR : wqX8_readFacet_c1 k t a2 Q) (hQ : ∀ r t, Q r t → hN (b) t → Q' r t) : wqX8_readFacet_c1 (h + k) t a2 Q' := (ngX8_readFacet_c1 hh Q Q' k b).1 t _ _ hb g hQ hR
set_option maxHeartbeats 4000000 in
set_option maxRecDepth 100000 in
theorem ngX8_read_c1 {h : Nat} (hh : 300 ≤ h) (Q Q' : Int32 → XT → Prop) : ∀ (k b : Nat), (∀ (t : XT) (li : Nat → Int32) (lj : Nat → Int64), b < 2147483648 → hN b t → (∀ r t, Q r t → hN (b) t → Q' r t) → wpX8_read_c1 k 0 t li lj Q → wpX8_read_c1 (h + k) 0 t li lj Q') ∧ (∀ (t : XT) (li : Nat → Int32) (lj : Nat → Int64), b < 2147483648 → hN b t → (∀ r t, Q r t → hN (b) t → Q' r t) → wpX8_read_c1 k 1 t li lj Q → wpX8_read_c1 (h + k) 1 t li lj Q') := by
  intro k
  induction k with
  | zero => intro b; exact ⟨fun _ _ _ _ _ _ hR => False.elim hR, fun _ _ _ _ _ _ hR => False.elim hR⟩
  | succ k ih =>
    intro b
    refine ⟨?_, ?_⟩
    · intro t li lj hb g hQ hR
      have hR : wbX8_read_c1_0 (wpX8_read_c1 k) k t li lj Q := hR
      show wbX8_read_c1_0 (wpX8_read_c1 (h + k)) (h + k) t li lj Q'
      unfold wbX8_read_c1_0 at hR ⊢
      exact fun x1 e1 => have g1 : hN (b) x1 := (by rw [e1]; exact hN_A (by decide) (by decide) (by decide) g); fun x2 e2 => have g2 : hN (b) x2 := (by rw [e2]; exact hN_I (by decide) (by decide) (by decide) (by decide) g1); fun x3 e3 => have g3 : hN (b) x3 := (by rw [e3]; exact hN_I (by decide) (by decide) (by decide) (by decide) g2); (ih (b)).2 _ _ _ (by omega) g3 (fun z0 z1 q0 g0 => hQ z0 z1 q0 (hN_mono (by omega) g0)) (((hR x1 e1) x2 e2) x3 e3)
    · intro t li lj hb g hQ hR
      have hR : wbX8_read_c1_1 (wpX8_read_c1 k) k t li lj Q := hR
      show wbX8_read_c1_1 (wpX8_read_c1 (h + k)) (h + k) t li lj Q'
      unfold wbX8_read_c1_1 at hR ⊢
      exact ⟨fun c1 => ndX8_fault (hR.1 c1) (fun y2_0 h2 => hQ _ _ h2 (hN_mono (by omega) g)), fun c3 => ndX8_skipBlanks_c1 hh (by omega) g (hR.2 c3) (fun y4_0 h4 g4 => ndX8_readFacet_c1 hh (by omega) g4 h4 (fun y5_0 y5_1 h5 g5 => ⟨fun c6 => ndX8_skipBlanks_c1 hh (by omega) g5 (h5.1 c6) (fun y7_0 h7 g7 => ⟨fun c8 => ndX10_at hh (by omega) g7 (h7.1 c8) (fun y9_0 y9_1 h9 g9 => ⟨fun c10 => fun x11 e11 => fun x12 e12 => have g12 : hN (b) x12 := (by rw [e12]; exact hN_I (by decide) (by decide) (by decide) (by decide) g9); fun x13 e13 => (ih (b)).2 _ _ _ (by omega) g12 (fun z0 z1 q0 g0 => hQ z0 z1 q0 (hN_mono (by omega) g0)) ((((h9.1 c10) x11 e11) x12 e12) x13 e13), fun c14 => ndX8_fault (h9.2 c14) (fun y15_0 h15 => hQ _ _ h15 (hN_mono (by omega) g9))⟩), fun c16 => hQ _ _ (h7.2 c16) (hN_mono (by omega) g7)⟩), fun c17 => hQ _ _ (h5.2 c17) (hN_mono (by omega) g5)⟩))⟩
theorem ndX8_read_c1 {h b k : Nat} {t : XT}  {Q Q' : Int32 → XT → Prop} (hh : 300 ≤ h) (hb : b < 2147483648) (g : hN b t) (hR : wqX8_read_c1 k t  Q) (hQ : ∀ r t, Q r t → hN (b) t → Q' r t) : wqX8_read_c1 (h + k) t  Q' := (ngX8_read_c1 hh Q Q' k b).1 t _ _ hb g hQ hR
set_option maxHeartbeats 4000000 in
set_option maxRecDepth 100000 in
theorem ngX9_all {h : Nat} (hh : 300 ≤ h) (Q Q' : Int64 → XT → Prop) : ∀ (k b : Nat), (∀ (t : XT) (li : Nat → Int32) (lj : Nat → Int64), b < 2147483648 → hN b t → (∀ r t, Q r t → hN (b) t → Q' r t) → wpX9_all k 0 t li lj Q → wpX9_all (h + k) 0 t li lj Q') := by
  intro k
  induction k with
  | zero => intro b; exact fun _ _ _ _ _ _ hR => False.elim hR
  | succ k ih =>
    intro b
    intro t li lj hb g hQ hR
    have hR : wbX9_all_0 (wpX9_all k) k t li lj Q := hR
    show wbX9_all_0 (wpX9_all (h + k)) (h + k) t li lj Q'
    unfold wbX9_all_0 at hR ⊢
    exact ndX11_bit hR (fun y1_0 h1 => fun x2 e2 => hQ _ _ (h1 x2 e2) (hN_mono (by omega) g))
theorem ndX9_all {h b k : Nat} {t : XT}  {Q Q' : Int64 → XT → Prop} (hh : 300 ≤ h) (hb : b < 2147483648) (g : hN b t) (hR : wqX9_all k t  Q) (hQ : ∀ r t, Q r t → hN (b) t → Q' r t) : wqX9_all (h + k) t  Q' := (ngX9_all hh Q Q' k b) t _ _ hb g hQ hR
set_option maxHeartbeats 4000000 in
set_option maxRecDepth 100000 in
theorem ngX4_forget {h : Nat} (hh : 300 ≤ h) (Q Q' : XT → Prop) : ∀ (k b : Nat), (∀ (t : XT) (li : Nat → Int32) (lj : Nat → Int64), b < 2147483648 → hN b t → (∀ t, Q t → hN (b) t → Q' t) → wpX4_forget k 0 t li lj Q → wpX4_forget (h + k) 0 t li lj Q') := by
  intro k
  induction k with
  | zero => intro b; exact fun _ _ _ _ _ _ hR => False.elim hR
  | succ k ih =>
    intro b
    intro t li lj hb g hQ hR
    have hR : wbX4_forget_0 (wpX4_forget k) k t li lj Q := hR
    show wbX4_forget_0 (wpX4_forget (h + k)) (h + k) t li lj Q'
    unfold wbX4_forget_0 at hR ⊢
    exact fun x1 e1 => have g1 : hN (b) x1 := (by rw [e1]; exact hN_J (by decide) (by decide) (by decide) g); hQ _ (hR x1 e1) (hN_mono (by omega) g1)
theorem ndX4_forget {h b k : Nat} {t : XT}  {Q Q' : XT → Prop} (hh : 300 ≤ h) (hb : b < 2147483648) (g : hN b t) (hR : wqX4_forget k t  Q) (hQ : ∀ t, Q t → hN (b) t → Q' t) : wqX4_forget (h + k) t  Q' := (ngX4_forget hh Q Q' k b) t _ _ hb g hQ hR
set_option maxHeartbeats 4000000 in
set_option maxRecDepth 100000 in
theorem ngX9_has {h : Nat} (hh : 300 ≤ h) (Q Q' : Int32 → XT → Prop) : ∀ (k b : Nat), (∀ (t : XT) (li : Nat → Int32) (lj : Nat → Int64), b < 2147483648 → hN b t → (∀ r t, Q r t → hN (b) t → Q' r t) → wpX9_has k 0 t li lj Q → wpX9_has (h + k) 0 t li lj Q') ∧ (∀ (t : XT) (li : Nat → Int32) (lj : Nat → Int64), b < 2147483648 → hN b t → (∀ r t, Q r t → hN (b) t → Q' r t) → wpX9_has k 1 t li lj Q → wpX9_has (h + k) 1 t li lj Q') := by
  intro k
  induction k with
  | zero => intro b; exact ⟨fun _ _ _ _ _ _ hR => False.elim hR, fun _ _ _ _ _ _ hR => False.elim hR⟩
  | succ k ih =>
    intro b
    refine ⟨?_, ?_⟩
    · intro t li lj hb g hQ hR
      have hR : wbX9_has_0 (wpX9_has k) k t li lj Q := hR
      show wbX9_has_0 (wpX9_has (h + k)) (h + k) t li lj Q'
      unfold wbX9_has_0 at hR ⊢
      exact ⟨fun c1 => (ih (b)).2 _ _ _ (by omega) g (fun z0 z1 q0 g0 => hQ z0 z1 q0 (hN_mono (by omega) g0)) (hR.1 c1), fun c2 => ⟨fun c3 => (ih (b)).2 _ _ _ (by omega) g (fun z0 z1 q0 g0 => hQ z0 z1 q0 (hN_mono (by omega) g0)) ((hR.2 c2).1 c3), fun c4 => hQ _ _ ((hR.2 c2).2 c4) (hN_mono (by omega) g)⟩⟩
    · intro t li lj hb g hQ hR
      have hR : wbX9_has_1 (wpX9_has k) k t li lj Q := hR
      show wbX9_has_1 (wpX9_has (h + k)) (h + k) t li lj Q'
      unfold wbX9_has_1 at hR ⊢
      exact hQ _ _ hR (hN_mono (by omega) g)
theorem ndX9_has {h b k : Nat} {t : XT} {a1 : Int32} {Q Q' : Int32 → XT → Prop} (hh : 300 ≤ h) (hb : b < 2147483648) (g : hN b t) (hR : wqX9_has k t a1 Q) (hQ : ∀ r t, Q r t → hN (b) t → Q' r t) : wqX9_has (h + k) t a1 Q' := (ngX9_has hh Q Q' k b).1 t _ _ hb g hQ hR
set_option maxHeartbeats 4000000 in
set_option maxRecDepth 100000 in
theorem ngX11_isThere {h : Nat} (hh : 300 ≤ h) (Q Q' : Int32 → XT → Prop) : ∀ (k b : Nat), (∀ (t : XT) (li : Nat → Int32) (lj : Nat → Int64), b < 2147483648 → hN b t → (∀ r t, Q r t → hN (b) t → Q' r t) → wpX11_isThere k 0 t li lj Q → wpX11_isThere (h + k) 0 t li lj Q') ∧ (∀ (t : XT) (li : Nat → Int32) (lj : Nat → Int64), b < 2147483648 → hN b t → (∀ r t, Q r t → hN (b) t → Q' r t) → wpX11_isThere k 1 t li lj Q → wpX11_isThere (h + k) 1 t li lj Q') := by
  intro k
  induction k with
  | zero => intro b; exact ⟨fun _ _ _ _ _ _ hR => False.elim hR, fun _ _ _ _ _ _ hR => False.elim hR⟩
  | succ k ih =>
    intro b
    refine ⟨?_, ?_⟩
    · intro t li lj hb g hQ hR
      have hR : wbX11_isThere_0 (wpX11_isThere k) k t li lj Q := hR
      show wbX11_isThere_0 (wpX11_isThere (h + k)) (h + k) t li lj Q'
      unfold wbX11_isThere_0 at hR ⊢
      exact ndX9_has hh (by omega) g hR (fun y1_0 y1_1 h1 g1 => ⟨fun c2 => (ih (b)).2 _ _ _ (by omega) g1 (fun z0 z1 q0 g0 => hQ z0 z1 q0 (hN_mono (by omega) g0)) (h1.1 c2), fun c3 => ndX11_isIn (h1.2 c3) (fun y4_0 h4 => ⟨fun c5 => (ih (b)).2 _ _ _ (by omega) g1 (fun z0 z1 q0 g0 => hQ z0 z1 q0 (hN_mono (by omega) g0)) (h4.1 c5), fun c6 => hQ _ _ (h4.2 c6) (hN_mono (by omega) g1)⟩)⟩)
    · intro t li lj hb g hQ hR
      have hR : wbX11_isThere_1 (wpX11_isThere k) k t li lj Q := hR
      show wbX11_isThere_1 (wpX11_isThere (h + k)) (h + k) t li lj Q'
      unfold wbX11_isThere_1 at hR ⊢
      exact hQ _ _ hR (hN_mono (by omega) g)
theorem ndX11_isThere {h b k : Nat} {t : XT} {a1 : Int32} {Q Q' : Int32 → XT → Prop} (hh : 300 ≤ h) (hb : b < 2147483648) (g : hN b t) (hR : wqX11_isThere k t a1 Q) (hQ : ∀ r t, Q r t → hN (b) t → Q' r t) : wqX11_isThere (h + k) t a1 Q' := (ngX11_isThere hh Q Q' k b).1 t _ _ hb g hQ hR
set_option maxHeartbeats 4000000 in
set_option maxRecDepth 100000 in
theorem ngX6_side {h : Nat} (hh : 300 ≤ h) (Q Q' : Int32 → XT → Prop) : ∀ (k b : Nat), (∀ (t : XT) (li : Nat → Int32) (lj : Nat → Int64), b < 2147483648 → hN b t → (∀ r t, Q r t → hN (b) t → Q' r t) → wpX6_side k 0 t li lj Q → wpX6_side (h + k) 0 t li lj Q') := by
  intro k
  induction k with
  | zero => intro b; exact fun _ _ _ _ _ _ hR => False.elim hR
  | succ k ih =>
    intro b
    intro t li lj hb g hQ hR
    have hR : wbX6_side_0 (wpX6_side k) k t li lj Q := hR
    show wbX6_side_0 (wpX6_side (h + k)) (h + k) t li lj Q'
    unfold wbX6_side_0 at hR ⊢
    exact ⟨hR.1, fun x1 e1 => ⟨fun c2 => ndX11_isIn ((hR.2 x1 e1).1 c2) (fun y3_0 h3 => ⟨fun c4 => hQ _ _ (h3.1 c4) (hN_mono (by omega) g), fun c5 => hQ _ _ (h3.2 c5) (hN_mono (by omega) g)⟩), fun c6 => hQ _ _ ((hR.2 x1 e1).2 c6) (hN_mono (by omega) g)⟩⟩
theorem ndX6_side {h b k : Nat} {t : XT} {a1 : Int32} {Q Q' : Int32 → XT → Prop} (hh : 300 ≤ h) (hb : b < 2147483648) (g : hN b t) (hR : wqX6_side k t a1 Q) (hQ : ∀ r t, Q r t → hN (b) t → Q' r t) : wqX6_side (h + k) t a1 Q' := (ngX6_side hh Q Q' k b) t _ _ hb g hQ hR
set_option maxHeartbeats 4000000 in
set_option maxRecDepth 100000 in
theorem ngX6_steps {h : Nat} (hh : 300 ≤ h) (Q Q' : Int64 → XT → Prop) : ∀ (k b : Nat), (∀ (t : XT) (li : Nat → Int32) (lj : Nat → Int64), b < 2147483648 → hN b t → (∀ r t, Q r t → hN (b) t → Q' r t) → wpX6_steps k 0 t li lj Q → wpX6_steps (h + k) 0 t li lj Q') := by
  intro k
  induction k with
  | zero => intro b; exact fun _ _ _ _ _ _ hR => False.elim hR
  | succ k ih =>
    intro b
    intro t li lj hb g hQ hR
    have hR : wbX6_steps_0 (wpX6_steps k) k t li lj Q := hR
    show wbX6_steps_0 (wpX6_steps (h + k)) (h + k) t li lj Q'
    unfold wbX6_steps_0 at hR ⊢
    exact ⟨hR.1, fun x1 e1 => ⟨fun c2 => ⟨((hR.2 x1 e1).1 c2).1, fun x3 e3 => ⟨(((hR.2 x1 e1).1 c2).2 x3 e3).1, fun x4 e4 => fun x5 e5 => fun x6 e6 => hQ _ _ ((((((hR.2 x1 e1).1 c2).2 x3 e3).2 x4 e4) x5 e5) x6 e6) (hN_mono (by omega) g)⟩⟩, fun c7 => ⟨((hR.2 x1 e1).2 c7).1, fun x8 e8 => hQ _ _ (((hR.2 x1 e1).2 c7).2 x8 e8) (hN_mono (by omega) g)⟩⟩⟩
theorem ndX6_steps {h b k : Nat} {t : XT} {a1 : Int32} {Q Q' : Int64 → XT → Prop} (hh : 300 ≤ h) (hb : b < 2147483648) (g : hN b t) (hR : wqX6_steps k t a1 Q) (hQ : ∀ r t, Q r t → hN (b) t → Q' r t) : wqX6_steps (h + k) t a1 Q' := (ngX6_steps hh Q Q' k b) t _ _ hb g hQ hR
set_option maxHeartbeats 4000000 in
set_option maxRecDepth 100000 in
theorem ngX2_of {h : Nat} (hh : 300 ≤ h) (Q Q' : Int32 → XT → Prop) : ∀ (k b : Nat), (∀ (t : XT) (li : Nat → Int32) (lj : Nat → Int64), b < 2147483648 → hN b t → (∀ r t, Q r t → hN (b) t → Q' r t) → wpX2_of k 0 t li lj Q → wpX2_of (h + k) 0 t li lj Q') := by
  intro k
  induction k with
  | zero => intro b; exact fun _ _ _ _ _ _ hR => False.elim hR
  | succ k ih =>
    intro b
    intro t li lj hb g hQ hR
    have hR : wbX2_of_0 (wpX2_of k) k t li lj Q := hR
    show wbX2_of_0 (wpX2_of (h + k)) (h + k) t li lj Q'
    unfold wbX2_of_0 at hR ⊢
    exact ndX2_measure hh (by omega) g hR (fun y1_0 h1 g1 => ⟨h1.1, fun x2 e2 => hQ _ _ (h1.2 x2 e2) (hN_mono (by omega) g1)⟩)
theorem ndX2_of {h b k : Nat} {t : XT} {a1 : Int32} {Q Q' : Int32 → XT → Prop} (hh : 300 ≤ h) (hb : b < 2147483648) (g : hN b t) (hR : wqX2_of k t a1 Q) (hQ : ∀ r t, Q r t → hN (b) t → Q' r t) : wqX2_of (h + k) t a1 Q' := (ngX2_of hh Q Q' k b) t _ _ hb g hQ hR
set_option maxHeartbeats 4000000 in
set_option maxRecDepth 100000 in
theorem ngX11_simplex {h : Nat} (hh : 300 ≤ h) (Q Q' : Int32 → XT → Prop) : ∀ (k b : Nat), (∀ (t : XT) (li : Nat → Int32) (lj : Nat → Int64), b < 2147483648 → hN b t → (∀ r t, Q r t → hN (b) t → Q' r t) → wpX11_simplex k 0 t li lj Q → wpX11_simplex (h + k) 0 t li lj Q') := by
  intro k
  induction k with
  | zero => intro b; exact fun _ _ _ _ _ _ hR => False.elim hR
  | succ k ih =>
    intro b
    intro t li lj hb g hQ hR
    have hR : wbX11_simplex_0 (wpX11_simplex k) k t li lj Q := hR
    show wbX11_simplex_0 (wpX11_simplex (h + k)) (h + k) t li lj Q'
    unfold wbX11_simplex_0 at hR ⊢
    exact ndX9_has hh (by omega) g hR (fun y1_0 y1_1 h1 g1 => ⟨fun c2 => ⟨fun c3 => hQ _ _ ((h1.1 c2).1 c3) (hN_mono (by omega) g1), fun c4 => ⟨((h1.1 c2).2.1 c4).1, fun x5 e5 => hQ _ _ (((h1.1 c2).2.1 c4).2 x5 e5) (hN_mono (by omega) g1)⟩, fun c6 => ⟨((h1.1 c2).2.2.1 c6).1, fun x7 e7 => hQ _ _ (((h1.1 c2).2.2.1 c6).2 x7 e7) (hN_mono (by omega) g1)⟩, fun c8 => ndX11_isThere hh (by omega) g1 ((h1.1 c2).2.2.2.1 c8) (fun y9_0 y9_1 h9 g9 => ⟨fun c10 => hQ _ _ (h9.1 c10) (hN_mono (by omega) g9), fun c11 => hQ _ _ (h9.2 c11) (hN_mono (by omega) g9)⟩), fun c12 => ⟨((h1.1 c2).2.2.2.2.1 c12).1, fun x13 e13 => hQ _ _ (((h1.1 c2).2.2.2.2.1 c12).2 x13 e13) (hN_mono (by omega) g1)⟩, fun c14 => ndX6_side hh (by omega) g1 ((h1.1 c2).2.2.2.2.2.1 c14) (fun y15_0 y15_1 h15 g15 => hQ _ _ h15 (hN_mono (by omega) g15)), fun c16 => ndX2_of hh (by omega) g1 ((h1.1 c2).2.2.2.2.2.2.1 c16) (fun y17_0 y17_1 h17 g17 => hQ _ _ h17 (hN_mono (by omega) g17)), fun c18 => ⟨((h1.1 c2).2.2.2.2.2.2.2 c18).1, fun x19 e19 => fun x20 e20 => ndJ13_bitCount_95d88 ((((h1.1 c2).2.2.2.2.2.2.2 c18).2 x19 e19) x20 e20) (fun y21_0 h21 => hQ _ _ h21 (hN_mono (by omega) g1))⟩⟩, fun c22 => hQ _ _ (h1.2 c22) (hN_mono (by omega) g1)⟩)
theorem ndX11_simplex {h b k : Nat} {t : XT} {a1 : Int32} {a2 : Int32} {Q Q' : Int32 → XT → Prop} (hh : 300 ≤ h) (hb : b < 2147483648) (g : hN b t) (hR : wqX11_simplex k t a1 a2 Q) (hQ : ∀ r t, Q r t → hN (b) t → Q' r t) : wqX11_simplex (h + k) t a1 a2 Q' := (ngX11_simplex hh Q Q' k b) t _ _ hb g hQ hR
set_option maxHeartbeats 4000000 in
set_option maxRecDepth 100000 in
theorem ngX11_number {h : Nat} (hh : 300 ≤ h) (Q Q' : Int32 → XT → Prop) : ∀ (k b : Nat), (∀ (t : XT) (li : Nat → Int32) (lj : Nat → Int64), b < 2147483648 → hN b t → (∀ r t, Q r t → hN (b) t → Q' r t) → wpX11_number k 0 t li lj Q → wpX11_number (h + k) 0 t li lj Q') ∧ (∀ (t : XT) (li : Nat → Int32) (lj : Nat → Int64), b < 2147483648 → hN b t → (∀ r t, Q r t → hN (b) t → Q' r t) → wpX11_number k 1 t li lj Q → wpX11_number (h + k) 1 t li lj Q') := by
  intro k
  induction k with
  | zero => intro b; exact ⟨fun _ _ _ _ _ _ hR => False.elim hR, fun _ _ _ _ _ _ hR => False.elim hR⟩
  | succ k ih =>
    intro b
    refine ⟨?_, ?_⟩
    · intro t li lj hb g hQ hR
      have hR : wbX11_number_0 (wpX11_number k) k t li lj Q := hR
      show wbX11_number_0 (wpX11_number (h + k)) (h + k) t li lj Q'
      unfold wbX11_number_0 at hR ⊢
      exact ⟨fun c1 => (ih (b)).2 _ _ _ (by omega) g (fun z0 z1 q0 g0 => hQ z0 z1 q0 (hN_mono (by omega) g0)) (hR.1 c1), fun c2 => ⟨fun c3 => ⟨((hR.2 c2).1 c3).1, fun x4 e4 => hQ _ _ (((hR.2 c2).1 c3).2 x4 e4) (hN_mono (by omega) g)⟩, fun c5 => (ih (b)).2 _ _ _ (by omega) g (fun z0 z1 q0 g0 => hQ z0 z1 q0 (hN_mono (by omega) g0)) ((hR.2 c2).2 c5)⟩⟩
    · intro t li lj hb g hQ hR
      have hR : wbX11_number_1 (wpX11_number k) k t li lj Q := hR
      show wbX11_number_1 (wpX11_number (h + k)) (h + k) t li lj Q'
      unfold wbX11_number_1 at hR ⊢
      exact hQ _ _ hR (hN_mono (by omega) g)
theorem ndX11_number {h b k : Nat} {t : XT} {a1 : Int32} {Q Q' : Int32 → XT → Prop} (hh : 300 ≤ h) (hb : b < 2147483648) (g : hN b t) (hR : wqX11_number k t a1 Q) (hQ : ∀ r t, Q r t → hN (b) t → Q' r t) : wqX11_number (h + k) t a1 Q' := (ngX11_number hh Q Q' k b).1 t _ _ hb g hQ hR
set_option maxHeartbeats 4000000 in
set_option maxRecDepth 100000 in
theorem ngX9_signOf {h : Nat} (hh : 300 ≤ h) (Q Q' : Int32 → XT → Prop) : ∀ (k b : Nat), (∀ (t : XT) (li : Nat → Int32) (lj : Nat → Int64), b < 2147483648 → hN b t → (∀ r t, Q r t → hN (b) t → Q' r t) → wpX9_signOf k 0 t li lj Q → wpX9_signOf (h + k) 0 t li lj Q') := by
  intro k
  induction k with
  | zero => intro b; exact fun _ _ _ _ _ _ hR => False.elim hR
  | succ k ih =>
    intro b
    intro t li lj hb g hQ hR
    have hR : wbX9_signOf_0 (wpX9_signOf k) k t li lj Q := hR
    show wbX9_signOf_0 (wpX9_signOf (h + k)) (h + k) t li lj Q'
    unfold wbX9_signOf_0 at hR ⊢
    exact ⟨hR.1, fun x1 e1 => ndX11_isIn (hR.2 x1 e1) (fun y2_0 h2 => ⟨fun c3 => ⟨(h2.1 c3).1, fun x4 e4 => ⟨((h2.1 c3).2 x4 e4).1, fun x5 e5 => fun x6 e6 => fun x7 e7 => ⟨(((((h2.1 c3).2 x4 e4).2 x5 e5) x6 e6) x7 e7).1, fun x8 e8 => fun x9 e9 => fun x10 e10 => ndJ6_bitCount_0f7a4 ((((((((h2.1 c3).2 x4 e4).2 x5 e5) x6 e6) x7 e7).2 x8 e8) x9 e9) x10 e10) (fun y11_0 h11 => fun x12 e12 => ⟨fun c13 => hQ _ _ ((h11 x12 e12).1 c13) (hN_mono (by omega) g), fun c14 => hQ _ _ ((h11 x12 e12).2 c14) (hN_mono (by omega) g)⟩)⟩⟩⟩, fun c15 => hQ _ _ (h2.2 c15) (hN_mono (by omega) g)⟩)⟩
theorem ndX9_signOf {h b k : Nat} {t : XT} {a1 : Int32} {a2 : Int32} {Q Q' : Int32 → XT → Prop} (hh : 300 ≤ h) (hb : b < 2147483648) (g : hN b t) (hR : wqX9_signOf k t a1 a2 Q) (hQ : ∀ r t, Q r t → hN (b) t → Q' r t) : wqX9_signOf (h + k) t a1 a2 Q' := (ngX9_signOf hh Q Q' k b) t _ _ hb g hQ hR
set_option maxHeartbeats 4000000 in
set_option maxRecDepth 100000 in
theorem ngX11_sign {h : Nat} (hh : 300 ≤ h) (Q Q' : Int32 → XT → Prop) : ∀ (k b : Nat), (∀ (t : XT) (li : Nat → Int32) (lj : Nat → Int64), b < 2147483648 → hN b t → (∀ r t, Q r t → hN (b) t → Q' r t) → wpX11_sign k 0 t li lj Q → wpX11_sign (h + k) 0 t li lj Q') ∧ (∀ (t : XT) (li : Nat → Int32) (lj : Nat → Int64), b < 2147483648 → hN b t → (∀ r t, Q r t → hN (b) t → Q' r t) → wpX11_sign k 1 t li lj Q → wpX11_sign (h + k) 1 t li lj Q') := by
  intro k
  induction k with
  | zero => intro b; exact ⟨fun _ _ _ _ _ _ hR => False.elim hR, fun _ _ _ _ _ _ hR => False.elim hR⟩
  | succ k ih =>
    intro b
    refine ⟨?_, ?_⟩
    · intro t li lj hb g hQ hR
      have hR : wbX11_sign_0 (wpX11_sign k) k t li lj Q := hR
      show wbX11_sign_0 (wpX11_sign (h + k)) (h + k) t li lj Q'
      unfold wbX11_sign_0 at hR ⊢
      exact ndX9_has hh (by omega) g hR (fun y1_0 y1_1 h1 g1 => ⟨fun c2 => (ih (b)).2 _ _ _ (by omega) g1 (fun z0 z1 q0 g0 => hQ z0 z1 q0 (hN_mono (by omega) g0)) (h1.1 c2), fun c3 => ndX9_has hh (by omega) g1 (h1.2 c3) (fun y4_0 y4_1 h4 g4 => ⟨fun c5 => ndX9_signOf hh (by omega) g4 (h4.1 c5) (fun y6_0 y6_1 h6 g6 => hQ _ _ h6 (hN_mono (by omega) g6)), fun c7 => (ih (b)).2 _ _ _ (by omega) g4 (fun z0 z1 q0 g0 => hQ z0 z1 q0 (hN_mono (by omega) g0)) (h4.2 c7)⟩)⟩)
    · intro t li lj hb g hQ hR
      have hR : wbX11_sign_1 (wpX11_sign k) k t li lj Q := hR
      show wbX11_sign_1 (wpX11_sign (h + k)) (h + k) t li lj Q'
      unfold wbX11_sign_1 at hR ⊢
      exact hQ _ _ hR (hN_mono (by omega) g)
theorem ndX11_sign {h b k : Nat} {t : XT} {a1 : Int32} {a2 : Int32} {Q Q' : Int32 → XT → Prop} (hh : 300 ≤ h) (hb : b < 2147483648) (g : hN b t) (hR : wqX11_sign k t a1 a2 Q) (hQ : ∀ r t, Q r t → hN (b) t → Q' r t) : wqX11_sign (h + k) t a1 a2 Q' := (ngX11_sign hh Q Q' k b).1 t _ _ hb g hQ hR
set_option maxHeartbeats 4000000 in
set_option maxRecDepth 100000 in
theorem ngX6_unpaired {h : Nat} (hh : 300 ≤ h) (Q Q' : Int64 → XT → Prop) : ∀ (k b : Nat), (∀ (t : XT) (li : Nat → Int32) (lj : Nat → Int64), b < 2147483648 → hN b t → (∀ r t, Q r t → hN (b) t → Q' r t) → wpX6_unpaired k 0 t li lj Q → wpX6_unpaired (h + k) 0 t li lj Q') := by
  intro k
  induction k with
  | zero => intro b; exact fun _ _ _ _ _ _ hR => False.elim hR
  | succ k ih =>
    intro b
    intro t li lj hb g hQ hR
    have hR : wbX6_unpaired_0 (wpX6_unpaired k) k t li lj Q := hR
    show wbX6_unpaired_0 (wpX6_unpaired (h + k)) (h + k) t li lj Q'
    unfold wbX6_unpaired_0 at hR ⊢
    exact fun x1 e1 => fun x2 e2 => fun x3 e3 => hQ _ _ (((hR x1 e1) x2 e2) x3 e3) (hN_mono (by omega) g)
theorem ndX6_unpaired {h b k : Nat} {t : XT}  {Q Q' : Int64 → XT → Prop} (hh : 300 ≤ h) (hb : b < 2147483648) (g : hN b t) (hR : wqX6_unpaired k t  Q) (hQ : ∀ r t, Q r t → hN (b) t → Q' r t) : wqX6_unpaired (h + k) t  Q' := (ngX6_unpaired hh Q Q' k b) t _ _ hb g hQ hR
set_option maxHeartbeats 4000000 in
set_option maxRecDepth 100000 in
theorem ngX6_isCritical {h : Nat} (hh : 300 ≤ h) (Q Q' : Int32 → XT → Prop) : ∀ (k b : Nat), (∀ (t : XT) (li : Nat → Int32) (lj : Nat → Int64), b < 2147483648 → hN b t → (∀ r t, Q r t → hN (b) t → Q' r t) → wpX6_isCritical k 0 t li lj Q → wpX6_isCritical (h + k) 0 t li lj Q') := by
  intro k
  induction k with
  | zero => intro b; exact fun _ _ _ _ _ _ hR => False.elim hR
  | succ k ih =>
    intro b
    intro t li lj hb g hQ hR
    have hR : wbX6_isCritical_0 (wpX6_isCritical k) k t li lj Q := hR
    show wbX6_isCritical_0 (wpX6_isCritical (h + k)) (h + k) t li lj Q'
    unfold wbX6_isCritical_0 at hR ⊢
    exact ndX6_unpaired hh (by omega) g hR (fun y1_0 y1_1 h1 g1 => ndX11_isIn h1 (fun y2_0 h2 => ⟨h2.1, hQ _ _ h2.2 (hN_mono (by omega) g1)⟩))
theorem ndX6_isCritical {h b k : Nat} {t : XT} {a1 : Int32} {Q Q' : Int32 → XT → Prop} (hh : 300 ≤ h) (hb : b < 2147483648) (g : hN b t) (hR : wqX6_isCritical k t a1 Q) (hQ : ∀ r t, Q r t → hN (b) t → Q' r t) : wqX6_isCritical (h + k) t a1 Q' := (ngX6_isCritical hh Q Q' k b) t _ _ hb g hQ hR
set_option maxHeartbeats 4000000 in
set_option maxRecDepth 100000 in
theorem ngX6_staysAcyclic {h : Nat} (hh : 300 ≤ h) (Q Q' : Int32 → XT → Prop) : ∀ (k b : Nat), (∀ (t : XT) (li : Nat → Int32) (lj : Nat → Int64), b < 2147483648 → hN b t → (∀ r t, Q r t → hN (b) t → Q' r t) → wpX6_staysAcyclic k 0 t li lj Q → wpX6_staysAcyclic (h + k) 0 t li lj Q') ∧ (∀ (t : XT) (li : Nat → Int32) (lj : Nat → Int64), b < 2147483648 → hN b t → (∀ r t, Q r t → hN (b) t → Q' r t) → wpX6_staysAcyclic k 1 t li lj Q → wpX6_staysAcyclic (h + k) 1 t li lj Q') ∧ (∀ (t : XT) (li : Nat → Int32) (lj : Nat → Int64), b < 2147483648 → hN b t → (∀ r t, Q r t → hN (b) t → Q' r t) → wpX6_staysAcyclic k 2 t li lj Q → wpX6_staysAcyclic (h + k) 2 t li lj Q') ∧ (∀ (t : XT) (li : Nat → Int32) (lj : Nat → Int64), b < 2147483648 → hN b t → (∀ r t, Q r t → hN (b) t → Q' r t) → wpX6_staysAcyclic k 3 t li lj Q → wpX6_staysAcyclic (h + k) 3 t li lj Q') := by
  intro k
  induction k with
  | zero => intro b; exact ⟨fun _ _ _ _ _ _ hR => False.elim hR, fun _ _ _ _ _ _ hR => False.elim hR, fun _ _ _ _ _ _ hR => False.elim hR, fun _ _ _ _ _ _ hR => False.elim hR⟩
  | succ k ih =>
    intro b
    refine ⟨?_, ?_, ?_, ?_⟩
    · intro t li lj hb g hQ hR
      have hR : wbX6_staysAcyclic_0 (wpX6_staysAcyclic k) k t li lj Q := hR
      show wbX6_staysAcyclic_0 (wpX6_staysAcyclic (h + k)) (h + k) t li lj Q'
      unfold wbX6_staysAcyclic_0 at hR ⊢
      exact ⟨hR.1, fun x1 e1 => ndX11_bit (hR.2 x1 e1) (fun y2_0 h2 => fun x3 e3 => fun x4 e4 => fun x5 e5 => (ih (b)).2.1 _ _ _ (by omega) g (fun z0 z1 q0 g0 => hQ z0 z1 q0 (hN_mono (by omega) g0)) (((h2 x3 e3) x4 e4) x5 e5))⟩
    · intro t li lj hb g hQ hR
      have hR : wbX6_staysAcyclic_1 (wpX6_staysAcyclic k) k t li lj Q := hR
      show wbX6_staysAcyclic_1 (wpX6_staysAcyclic (h + k)) (h + k) t li lj Q'
      unfold wbX6_staysAcyclic_1 at hR ⊢
      exact ⟨fun c1 => (ih (b)).2.2.2 _ _ _ (by omega) g (fun z0 z1 q0 g0 => hQ z0 z1 q0 (hN_mono (by omega) g0)) (hR.1 c1), fun c2 => fun x3 e3 => ⟨fun c4 => (ih (b)).2.2.2 _ _ _ (by omega) g (fun z0 z1 q0 g0 => hQ z0 z1 q0 (hN_mono (by omega) g0)) (((hR.2 c2) x3 e3).1 c4), fun c5 => ndX11_lowest (((hR.2 c2) x3 e3).2 c5) (fun y6_0 h6 => ndX11_bit h6 (fun y7_0 h7 => fun x8 e8 => fun x9 e9 => ⟨((h7 x8 e8) x9 e9).1, fun x10 e10 => ⟨fun c11 => (ih (b)).2.2.1 _ _ _ (by omega) g (fun z0 z1 q0 g0 => hQ z0 z1 q0 (hN_mono (by omega) g0)) ((((h7 x8 e8) x9 e9).2 x10 e10).1 c11), fun c12 => ⟨((((h7 x8 e8) x9 e9).2 x10 e10).2 c12).1, fun x13 e13 => ⟨(((((h7 x8 e8) x9 e9).2 x10 e10).2 c12).2 x13 e13).1, fun x14 e14 => fun x15 e15 => fun x16 e16 => fun x17 e17 => fun x18 e18 => fun x19 e19 => (ih (b)).2.2.1 _ _ _ (by omega) g (fun z0 z1 q0 g0 => hQ z0 z1 q0 (hN_mono (by omega) g0)) (((((((((((h7 x8 e8) x9 e9).2 x10 e10).2 c12).2 x13 e13).2 x14 e14) x15 e15) x16 e16) x17 e17) x18 e18) x19 e19)⟩⟩⟩⟩))⟩⟩
    · intro t li lj hb g hQ hR
      have hR : wbX6_staysAcyclic_2 (wpX6_staysAcyclic k) k t li lj Q := hR
      show wbX6_staysAcyclic_2 (wpX6_staysAcyclic (h + k)) (h + k) t li lj Q'
      unfold wbX6_staysAcyclic_2 at hR ⊢
      exact fun x1 e1 => (ih (b)).2.1 _ _ _ (by omega) g (fun z0 z1 q0 g0 => hQ z0 z1 q0 (hN_mono (by omega) g0)) (hR x1 e1)
    · intro t li lj hb g hQ hR
      have hR : wbX6_staysAcyclic_3 (wpX6_staysAcyclic k) k t li lj Q := hR
      show wbX6_staysAcyclic_3 (wpX6_staysAcyclic (h + k)) (h + k) t li lj Q'
      unfold wbX6_staysAcyclic_3 at hR ⊢
      exact ndX11_isIn hR (fun y1_0 h1 => ⟨fun c2 => hQ _ _ (h1.1 c2) (hN_mono (by omega) g), fun c3 => hQ _ _ (h1.2 c3) (hN_mono (by omega) g)⟩)
theorem ndX6_staysAcyclic {h b k : Nat} {t : XT} {a1 : Int32} {a2 : Int32} {Q Q' : Int32 → XT → Prop} (hh : 300 ≤ h) (hb : b < 2147483648) (g : hN b t) (hR : wqX6_staysAcyclic k t a1 a2 Q) (hQ : ∀ r t, Q r t → hN (b) t → Q' r t) : wqX6_staysAcyclic (h + k) t a1 a2 Q' := (ngX6_staysAcyclic hh Q Q' k b).1 t _ _ hb g hQ hR
set_option maxHeartbeats 4000000 in
set_option maxRecDepth 100000 in
theorem ngX3_save_c4 {h : Nat} (hh : 300 ≤ h) (Q Q' : XT → Prop) : ∀ (k b : Nat), (∀ (t : XT) (li : Nat → Int32) (lj : Nat → Int64), b < 2147483648 → hN b t → (∀ t, Q t → hN (b) t → Q' t) → wpX3_save_c4 k 0 t li lj Q → wpX3_save_c4 (h + k) 0 t li lj Q') := by
  intro k
  induction k with
  | zero => intro b; exact fun _ _ _ _ _ _ hR => False.elim hR
  | succ k ih =>
    intro b
    intro t li lj hb g hQ hR
    have hR : wbX3_save_c4_0 (wpX3_save_c4 k) k t li lj Q := hR
    show wbX3_save_c4_0 (wpX3_save_c4 (h + k)) (h + k) t li lj Q'
    unfold wbX3_save_c4_0 at hR ⊢
    exact fun x1 e1 => ⟨(hR x1 e1).1, (hR x1 e1).2.1, (hR x1 e1).2.2.1, (hR x1 e1).2.2.2.1, (hR x1 e1).2.2.2.2.1, fun x2 e2 => have g2 : hN (b) x2 := (by rw [e2]; exact hN_A (by decide) (by decide) (by decide) g); ⟨((hR x1 e1).2.2.2.2.2 x2 e2).1, fun x3 e3 => have g3 : hN (b) x3 := (by rw [e3]; exact hN_B (by decide) g2); fun x4 e4 => ⟨((((hR x1 e1).2.2.2.2.2 x2 e2).2 x3 e3) x4 e4).1, fun x5 e5 => fun x6 e6 => have g6 : hN (b) x6 := (by rw [e6]; exact hN_I (by decide) (by decide) (by decide) (by decide) g3); fun x7 e7 => fun x8 e8 => fun x9 e9 => have g9 : hN (b) x9 := (by rw [e9]; exact hN_I (by decide) (by decide) (by decide) (by decide) g6); hQ _ (((((((((hR x1 e1).2.2.2.2.2 x2 e2).2 x3 e3) x4 e4).2 x5 e5) x6 e6) x7 e7) x8 e8) x9 e9) (hN_mono (by omega) g9)⟩⟩⟩
theorem ndX3_save_c4 {h b k : Nat} {t : XT}  {Q Q' : XT → Prop} (hh : 300 ≤ h) (hb : b < 2147483648) (g : hN b t) (hR : wqX3_save_c4 k t  Q) (hQ : ∀ t, Q t → hN (b) t → Q' t) : wqX3_save_c4 (h + k) t  Q' := (ngX3_save_c4 hh Q Q' k b) t _ _ hb g hQ hR
set_option maxHeartbeats 4000000 in
set_option maxRecDepth 100000 in
theorem ngX11_criticalOnes {h : Nat} (hh : 300 ≤ h) (Q Q' : Int32 → XT → Prop) : ∀ (k b : Nat), (∀ (t : XT) (li : Nat → Int32) (lj : Nat → Int64), b < 2147483648 → hN b t → (∀ r t, Q r t → hN (b) t → Q' r t) → wpX11_criticalOnes k 0 t li lj Q → wpX11_criticalOnes (h + k) 0 t li lj Q') := by
  intro k
  induction k with
  | zero => intro b; exact fun _ _ _ _ _ _ hR => False.elim hR
  | succ k ih =>
    intro b
    intro t li lj hb g hQ hR
    have hR : wbX11_criticalOnes_0 (wpX11_criticalOnes k) k t li lj Q := hR
    show wbX11_criticalOnes_0 (wpX11_criticalOnes (h + k)) (h + k) t li lj Q'
    unfold wbX11_criticalOnes_0 at hR ⊢
    exact ndX6_unpaired hh (by omega) g hR (fun y1_0 y1_1 h1 g1 => ndJ13_bitCount_95d88 h1 (fun y2_0 h2 => hQ _ _ h2 (hN_mono (by omega) g1)))
theorem ndX11_criticalOnes {h b k : Nat} {t : XT}  {Q Q' : Int32 → XT → Prop} (hh : 300 ≤ h) (hb : b < 2147483648) (g : hN b t) (hR : wqX11_criticalOnes k t  Q) (hQ : ∀ r t, Q r t → hN (b) t → Q' r t) : wqX11_criticalOnes (h + k) t  Q' := (ngX11_criticalOnes hh Q Q' k b) t _ _ hb g hQ hR
set_option maxHeartbeats 4000000 in
set_option maxRecDepth 100000 in
theorem ngX11_pair {h : Nat} (hh : 300 ≤ h) (Q Q' : Int32 → XT → Prop) : ∀ (k b : Nat), (∀ (t : XT) (li : Nat → Int32) (lj : Nat → Int64), b + 1 < 2147483648 → hN b t → (∀ r t, Q r t → hN (b + 1) t → Q' r t) → wpX11_pair k 0 t li lj Q → wpX11_pair (h + k) 0 t li lj Q') ∧ (∀ (t : XT) (li : Nat → Int32) (lj : Nat → Int64), b < 2147483648 → hN b t → (∀ r t, Q r t → hN (b) t → Q' r t) → wpX11_pair k 1 t li lj Q → wpX11_pair (h + k) 1 t li lj Q') ∧ (∀ (t : XT) (li : Nat → Int32) (lj : Nat → Int64), b < 2147483648 → hN b t → (∀ r t, Q r t → hN (b) t → Q' r t) → wpX11_pair k 2 t li lj Q → wpX11_pair (h + k) 2 t li lj Q') := by
  intro k
  induction k with
  | zero => intro b; exact ⟨fun _ _ _ _ _ _ hR => False.elim hR, fun _ _ _ _ _ _ hR => False.elim hR, fun _ _ _ _ _ _ hR => False.elim hR⟩
  | succ k ih =>
    intro b
    refine ⟨?_, ?_, ?_⟩
    · intro t li lj hb g hQ hR
      have hR : wbX11_pair_0 (wpX11_pair k) k t li lj Q := hR
      show wbX11_pair_0 (wpX11_pair (h + k)) (h + k) t li lj Q'
      unfold wbX11_pair_0 at hR ⊢
      exact ndX11_isThere hh (by omega) g hR (fun y1_0 y1_1 h1 g1 => ⟨fun c2 => (ih (b)).2.1 _ _ _ (by omega) g1 (fun z0 z1 q0 g0 => hQ z0 z1 q0 (hN_mono (by omega) g0)) (h1.1 c2), fun c3 => ndX11_isThere hh (by omega) g1 (h1.2 c3) (fun y4_0 y4_1 h4 g4 => ⟨fun c5 => (ih (b)).2.1 _ _ _ (by omega) g4 (fun z0 z1 q0 g0 => hQ z0 z1 q0 (hN_mono (by omega) g0)) (h4.1 c5), fun c6 => ⟨(h4.2 c6).1, fun x7 e7 => ndX11_isIn ((h4.2 c6).2 x7 e7) (fun y8_0 h8 => ⟨fun c9 => ndX6_isCritical hh (by omega) g4 (h8.1 c9) (fun y10_0 y10_1 h10 g10 => ⟨fun c11 => (ih (b)).2.2 _ _ _ (by omega) g10 (fun z0 z1 q0 g0 => hQ z0 z1 q0 (hN_mono (by omega) g0)) (h10.1 c11), fun c12 => ndX6_isCritical hh (by omega) g10 (h10.2 c12) (fun y13_0 y13_1 h13 g13 => ⟨fun c14 => ndX6_staysAcyclic hh (by omega) g13 (h13.1 c14) (fun y15_0 y15_1 h15 g15 => ⟨fun c16 => ndX3_save_c4 hh (by omega) g15 (h15.1 c16) (fun y17_0 h17 g17 => ndX6_unite hh (by omega) g17 h17 (fun y18_0 h18 g18 => ndX11_criticalOnes hh (by omega) g18 h18 (fun y19_0 y19_1 h19 g19 => hQ _ _ h19 (hN_mono (by omega) g19)))), fun c20 => hQ _ _ (h15.2 c20) (hN_mono (by omega) g15)⟩), fun c21 => (ih (b)).2.2 _ _ _ (by omega) g13 (fun z0 z1 q0 g0 => hQ z0 z1 q0 (hN_mono (by omega) g0)) (h13.2 c21)⟩)⟩), fun c22 => (ih (b)).2.1 _ _ _ (by omega) g4 (fun z0 z1 q0 g0 => hQ z0 z1 q0 (hN_mono (by omega) g0)) (h8.2 c22)⟩)⟩⟩)⟩)
    · intro t li lj hb g hQ hR
      have hR : wbX11_pair_1 (wpX11_pair k) k t li lj Q := hR
      show wbX11_pair_1 (wpX11_pair (h + k)) (h + k) t li lj Q'
      unfold wbX11_pair_1 at hR ⊢
      exact hQ _ _ hR (hN_mono (by omega) g)
    · intro t li lj hb g hQ hR
      have hR : wbX11_pair_2 (wpX11_pair k) k t li lj Q := hR
      show wbX11_pair_2 (wpX11_pair (h + k)) (h + k) t li lj Q'
      unfold wbX11_pair_2 at hR ⊢
      exact hQ _ _ hR (hN_mono (by omega) g)
theorem ndX11_pair {h b k : Nat} {t : XT} {a1 : Int32} {a2 : Int32} {Q Q' : Int32 → XT → Prop} (hh : 300 ≤ h) (hb : b + 1 < 2147483648) (g : hN b t) (hR : wqX11_pair k t a1 a2 Q) (hQ : ∀ r t, Q r t → hN (b + 1) t → Q' r t) : wqX11_pair (h + k) t a1 a2 Q' := (ngX11_pair hh Q Q' k b).1 t _ _ hb g hQ hR
set_option maxHeartbeats 4000000 in
set_option maxRecDepth 100000 in
theorem ngX11_part {h : Nat} (hh : 300 ≤ h) (Q Q' : Int32 → XT → Prop) : ∀ (k b : Nat), (∀ (t : XT) (li : Nat → Int32) (lj : Nat → Int64), b + 1 < 2147483648 → hN b t → (∀ r t, Q r t → hN (b + 1) t → Q' r t) → wpX11_part k 0 t li lj Q → wpX11_part (h + k) 0 t li lj Q') ∧ (∀ (t : XT) (li : Nat → Int32) (lj : Nat → Int64), b < 2147483648 → hN b t → (∀ r t, Q r t → hN (b) t → Q' r t) → wpX11_part k 1 t li lj Q → wpX11_part (h + k) 1 t li lj Q') := by
  intro k
  induction k with
  | zero => intro b; exact ⟨fun _ _ _ _ _ _ hR => False.elim hR, fun _ _ _ _ _ _ hR => False.elim hR⟩
  | succ k ih =>
    intro b
    refine ⟨?_, ?_⟩
    · intro t li lj hb g hQ hR
      have hR : wbX11_part_0 (wpX11_part k) k t li lj Q := hR
      show wbX11_part_0 (wpX11_part (h + k)) (h + k) t li lj Q'
      unfold wbX11_part_0 at hR ⊢
      exact ndX11_isThere hh (by omega) g hR (fun y1_0 y1_1 h1 g1 => ⟨fun c2 => (ih (b)).2 _ _ _ (by omega) g1 (fun z0 z1 q0 g0 => hQ z0 z1 q0 (hN_mono (by omega) g0)) (h1.1 c2), fun c3 => ⟨(h1.2 c3).1, fun x4 e4 => ⟨fun c5 => ndX3_save_c4 hh (by omega) g1 (((h1.2 c3).2 x4 e4).1 c5) (fun y6_0 h6 g6 => ndX6_divide hh (by omega) g6 h6 (fun y7_0 h7 g7 => ndX11_criticalOnes hh (by omega) g7 h7 (fun y8_0 y8_1 h8 g8 => hQ _ _ h8 (hN_mono (by omega) g8)))), fun c9 => (ih (b)).2 _ _ _ (by omega) g1 (fun z0 z1 q0 g0 => hQ z0 z1 q0 (hN_mono (by omega) g0)) (((h1.2 c3).2 x4 e4).2 c9)⟩⟩⟩)
    · intro t li lj hb g hQ hR
      have hR : wbX11_part_1 (wpX11_part k) k t li lj Q := hR
      show wbX11_part_1 (wpX11_part (h + k)) (h + k) t li lj Q'
      unfold wbX11_part_1 at hR ⊢
      exact hQ _ _ hR (hN_mono (by omega) g)
theorem ndX11_part {h b k : Nat} {t : XT} {a1 : Int32} {Q Q' : Int32 → XT → Prop} (hh : 300 ≤ h) (hb : b + 1 < 2147483648) (g : hN b t) (hR : wqX11_part k t a1 Q) (hQ : ∀ r t, Q r t → hN (b + 1) t → Q' r t) : wqX11_part (h + k) t a1 Q' := (ngX11_part hh Q Q' k b).1 t _ _ hb g hQ hR
set_option maxHeartbeats 4000000 in
set_option maxRecDepth 100000 in
theorem ngX7_lookAgain {h : Nat} (hh : 300 ≤ h) (Q Q' : XT → Prop) : ∀ (k b : Nat), (∀ (t : XT) (li : Nat → Int32) (lj : Nat → Int64), b < 2147483648 → hN b t → (∀ t, Q t → hN (b) t → Q' t) → wpX7_lookAgain k 0 t li lj Q → wpX7_lookAgain (h + k) 0 t li lj Q') ∧ (∀ (t : XT) (li : Nat → Int32) (lj : Nat → Int64), b < 2147483648 → hN b t → (∀ t, Q t → hN (b) t → Q' t) → wpX7_lookAgain k 1 t li lj Q → wpX7_lookAgain (h + k) 1 t li lj Q') ∧ (∀ (t : XT) (li : Nat → Int32) (lj : Nat → Int64), b < 2147483648 → hN b t → (∀ t, Q t → hN (b) t → Q' t) → wpX7_lookAgain k 2 t li lj Q → wpX7_lookAgain (h + k) 2 t li lj Q') := by
  intro k
  induction k with
  | zero => intro b; exact ⟨fun _ _ _ _ _ _ hR => False.elim hR, fun _ _ _ _ _ _ hR => False.elim hR, fun _ _ _ _ _ _ hR => False.elim hR⟩
  | succ k ih =>
    intro b
    refine ⟨?_, ?_, ?_⟩
    · intro t li lj hb g hQ hR
      have hR : wbX7_lookAgain_0 (wpX7_lookAgain k) k t li lj Q := hR
      show wbX7_lookAgain_0 (wpX7_lookAgain (h + k)) (h + k) t li lj Q'
      unfold wbX7_lookAgain_0 at hR ⊢
      exact (ih (b)).2.1 _ _ _ (by omega) g (fun z0 q0 g0 => hQ z0 q0 (hN_mono (by omega) g0)) hR
    · intro t li lj hb g hQ hR
      have hR : wbX7_lookAgain_1 (wpX7_lookAgain k) k t li lj Q := hR
      show wbX7_lookAgain_1 (wpX7_lookAgain (h + k)) (h + k) t li lj Q'
      unfold wbX7_lookAgain_1 at hR ⊢
      exact ⟨fun c1 => hQ _ (hR.1 c1) (hN_mono (by omega) g), fun c2 => fun x3 e3 => ⟨fun c4 => hQ _ (((hR.2 c2) x3 e3).1 c4) (hN_mono (by omega) g), fun c5 => ndX11_lowest (((hR.2 c2) x3 e3).2 c5) (fun y6_0 h6 => fun x7 e7 => fun x8 e8 => ⟨((h6 x7 e7) x8 e8).1, fun x9 e9 => fun x10 e10 => ndJ13_bitCount_95d88 ((((h6 x7 e7) x8 e8).2 x9 e9) x10 e10) (fun y11_0 h11 => ⟨fun c12 => ndX11_bit (h11.1 c12) (fun y13_0 h13 => fun x14 e14 => fun x15 e15 => fun x16 e16 => have g16 : hN (b) x16 := (by rw [e16]; exact hN_J (by decide) (by decide) (by decide) g); (ih (b)).2.2 _ _ _ (by omega) g16 (fun z0 q0 g0 => hQ z0 q0 (hN_mono (by omega) g0)) (((h13 x14 e14) x15 e15) x16 e16)), fun c17 => ndX11_bit (h11.2 c17) (fun y18_0 h18 => fun x19 e19 => fun x20 e20 => have g20 : hN (b) x20 := (by rw [e20]; exact hN_J (by decide) (by decide) (by decide) g); (ih (b)).2.2 _ _ _ (by omega) g20 (fun z0 q0 g0 => hQ z0 q0 (hN_mono (by omega) g0)) ((h18 x19 e19) x20 e20))⟩)⟩)⟩⟩
    · intro t li lj hb g hQ hR
      have hR : wbX7_lookAgain_2 (wpX7_lookAgain k) k t li lj Q := hR
      show wbX7_lookAgain_2 (wpX7_lookAgain (h + k)) (h + k) t li lj Q'
      unfold wbX7_lookAgain_2 at hR ⊢
      exact fun x1 e1 => (ih (b)).2.1 _ _ _ (by omega) g (fun z0 q0 g0 => hQ z0 q0 (hN_mono (by omega) g0)) (hR x1 e1)
theorem ndX7_lookAgain {h b k : Nat} {t : XT} {a1 : Int64} {Q Q' : XT → Prop} (hh : 300 ≤ h) (hb : b < 2147483648) (g : hN b t) (hR : wqX7_lookAgain k t a1 Q) (hQ : ∀ t, Q t → hN (b) t → Q' t) : wqX7_lookAgain (h + k) t a1 Q' := (ngX7_lookAgain hh Q Q' k b).1 t _ _ hb g hQ hR
set_option maxHeartbeats 4000000 in
set_option maxRecDepth 100000 in
theorem ngX7_begin {h : Nat} (hh : 300 ≤ h) (Q Q' : XT → Prop) : ∀ (k b : Nat), (∀ (t : XT) (li : Nat → Int32) (lj : Nat → Int64), b < 2147483648 → hN b t → (∀ t, Q t → hN (b) t → Q' t) → wpX7_begin k 0 t li lj Q → wpX7_begin (h + k) 0 t li lj Q') := by
  intro k
  induction k with
  | zero => intro b; exact fun _ _ _ _ _ _ hR => False.elim hR
  | succ k ih =>
    intro b
    intro t li lj hb g hQ hR
    have hR : wbX7_begin_0 (wpX7_begin k) k t li lj Q := hR
    show wbX7_begin_0 (wpX7_begin (h + k)) (h + k) t li lj Q'
    unfold wbX7_begin_0 at hR ⊢
    exact fun x1 e1 => have g1 : hN (b) x1 := (by rw [e1]; exact hN_J (by decide) (by decide) (by decide) g); fun x2 e2 => have g2 : hN (b) x2 := (by rw [e2]; exact hN_J (by decide) (by decide) (by decide) g1); ndX7_lookAgain hh (by omega) g2 ((hR x1 e1) x2 e2) (fun y3_0 h3 g3 => hQ _ h3 (hN_mono (by omega) g3))
theorem ndX7_begin {h b k : Nat} {t : XT} {a1 : Int64} {Q Q' : XT → Prop} (hh : 300 ≤ h) (hb : b < 2147483648) (g : hN b t) (hR : wqX7_begin k t a1 Q) (hQ : ∀ t, Q t → hN (b) t → Q' t) : wqX7_begin (h + k) t a1 Q' := (ngX7_begin hh Q Q' k b) t _ _ hb g hQ hR
set_option maxHeartbeats 4000000 in
set_option maxRecDepth 100000 in
theorem ngX7_close {h : Nat} (hh : 300 ≤ h) (Q Q' : XT → Prop) : ∀ (k b : Nat), (∀ (t : XT) (li : Nat → Int32) (lj : Nat → Int64), b < 2147483648 → hN b t → (∀ t, Q t → hN (b) t → Q' t) → wpX7_close k 0 t li lj Q → wpX7_close (h + k) 0 t li lj Q') := by
  intro k
  induction k with
  | zero => intro b; exact fun _ _ _ _ _ _ hR => False.elim hR
  | succ k ih =>
    intro b
    intro t li lj hb g hQ hR
    have hR : wbX7_close_0 (wpX7_close k) k t li lj Q := hR
    show wbX7_close_0 (wpX7_close (h + k)) (h + k) t li lj Q'
    unfold wbX7_close_0 at hR ⊢
    exact ndX11_bit hR (fun y1_0 h1 => fun x2 e2 => fun x3 e3 => fun x4 e4 => have g4 : hN (b) x4 := (by rw [e4]; exact hN_J (by decide) (by decide) (by decide) g); ndX11_bit (((h1 x2 e2) x3 e3) x4 e4) (fun y5_0 h5 => fun x6 e6 => fun x7 e7 => fun x8 e8 => have g8 : hN (b) x8 := (by rw [e8]; exact hN_J (by decide) (by decide) (by decide) g4); ⟨(((h5 x6 e6) x7 e7) x8 e8).1, fun x9 e9 => fun x10 e10 => ndX7_lookAgain hh (by omega) g8 (((((h5 x6 e6) x7 e7) x8 e8).2 x9 e9) x10 e10) (fun y11_0 h11 g11 => hQ _ h11 (hN_mono (by omega) g11))⟩))
theorem ndX7_close {h b k : Nat} {t : XT} {a1 : Int32} {Q Q' : XT → Prop} (hh : 300 ≤ h) (hb : b < 2147483648) (g : hN b t) (hR : wqX7_close k t a1 Q) (hQ : ∀ t, Q t → hN (b) t → Q' t) : wqX7_close (h + k) t a1 Q' := (ngX7_close hh Q Q' k b) t _ _ hb g hQ hR
set_option maxHeartbeats 4000000 in
set_option maxRecDepth 100000 in
theorem ngX7_above {h : Nat} (hh : 300 ≤ h) (Q Q' : Int32 → XT → Prop) : ∀ (k b : Nat), (∀ (t : XT) (li : Nat → Int32) (lj : Nat → Int64), b < 2147483648 → hN b t → (∀ r t, Q r t → hN (b) t → Q' r t) → wpX7_above k 0 t li lj Q → wpX7_above (h + k) 0 t li lj Q') := by
  intro k
  induction k with
  | zero => intro b; exact fun _ _ _ _ _ _ hR => False.elim hR
  | succ k ih =>
    intro b
    intro t li lj hb g hQ hR
    have hR : wbX7_above_0 (wpX7_above k) k t li lj Q := hR
    show wbX7_above_0 (wpX7_above (h + k)) (h + k) t li lj Q'
    unfold wbX7_above_0 at hR ⊢
    exact ⟨hR.1, fun x1 e1 => fun x2 e2 => ndX11_lowest ((hR.2 x1 e1) x2 e2) (fun y3_0 h3 => hQ _ _ h3 (hN_mono (by omega) g))⟩
theorem ndX7_above {h b k : Nat} {t : XT} {a1 : Int32} {Q Q' : Int32 → XT → Prop} (hh : 300 ≤ h) (hb : b < 2147483648) (g : hN b t) (hR : wqX7_above k t a1 Q) (hQ : ∀ r t, Q r t → hN (b) t → Q' r t) : wqX7_above (h + k) t a1 Q' := (ngX7_above hh Q Q' k b) t _ _ hb g hQ hR
set_option maxHeartbeats 4000000 in
set_option maxRecDepth 100000 in
theorem ngX11_pairByPeeling {h : Nat} (hh : 300 ≤ h) (Q Q' : XT → Prop) : ∀ (k b : Nat), (∀ (t : XT) (li : Nat → Int32) (lj : Nat → Int64), b + (0 + 4 * k) < 2147483648 → hN b t → (∀ t, Q t → hN (b + (0 + 4 * k)) t → Q' t) → wpX11_pairByPeeling k 0 t li lj Q → wpX11_pairByPeeling (h + k) 0 t li lj Q') ∧ (∀ (t : XT) (li : Nat → Int32) (lj : Nat → Int64), b + (0 + 4 * k) < 2147483648 → hN b t → (∀ t, Q t → hN (b + (0 + 4 * k)) t → Q' t) → wpX11_pairByPeeling k 1 t li lj Q → wpX11_pairByPeeling (h + k) 1 t li lj Q') ∧ (∀ (t : XT) (li : Nat → Int32) (lj : Nat → Int64), b + (0 + 4 * k) < 2147483648 → hN b t → (∀ t, Q t → hN (b + (0 + 4 * k)) t → Q' t) → wpX11_pairByPeeling k 2 t li lj Q → wpX11_pairByPeeling (h + k) 2 t li lj Q') := by
  intro k
  induction k with
  | zero => intro b; exact ⟨fun _ _ _ _ _ _ hR => False.elim hR, fun _ _ _ _ _ _ hR => False.elim hR, fun _ _ _ _ _ _ hR => False.elim hR⟩
  | succ k ih =>
    intro b
    refine ⟨?_, ?_, ?_⟩
    · intro t li lj hb g hQ hR
      have hR : wbX11_pairByPeeling_0 (wpX11_pairByPeeling k) k t li lj Q := hR
      show wbX11_pairByPeeling_0 (wpX11_pairByPeeling (h + k)) (h + k) t li lj Q'
      unfold wbX11_pairByPeeling_0 at hR ⊢
      exact ndX7_begin hh (by omega) g hR (fun y1_0 h1 g1 => (ih (b)).2.1 _ _ _ (by omega) g1 (fun z0 q0 g0 => hQ z0 q0 (hN_mono (by omega) g0)) h1)
    · intro t li lj hb g hQ hR
      have hR : wbX11_pairByPeeling_1 (wpX11_pairByPeeling k) k t li lj Q := hR
      show wbX11_pairByPeeling_1 (wpX11_pairByPeeling (h + k)) (h + k) t li lj Q'
      unfold wbX11_pairByPeeling_1 at hR ⊢
      exact ⟨fun c1 => hQ _ (hR.1 c1) (hN_mono (by omega) g), fun c2 => fun x3 e3 => ⟨fun c4 => hQ _ (((hR.2 c2) x3 e3).1 c4) (hN_mono (by omega) g), fun c5 => fun x6 e6 => ⟨fun c7 => ndJ13_bitCount_95d88 (((((hR.2 c2) x3 e3).2 c5) x6 e6).1 c7) (fun y8_0 h8 => fun x9 e9 => ndX11_nth (h8 x9 e9) (fun y10_0 h10 => ndX7_close hh (by omega) g h10 (fun y11_0 h11 g11 => (ih (b)).2.2 _ _ _ (by omega) g11 (fun z0 q0 g0 => hQ z0 q0 (hN_mono (by omega) g0)) h11))), fun c12 => ndX11_lowest (((((hR.2 c2) x3 e3).2 c5) x6 e6).2 c12) (fun y13_0 h13 => ndX7_above hh (by omega) g h13 (fun y14_0 y14_1 h14 g14 => ndX6_unite hh (by omega) g14 h14 (fun y15_0 h15 g15 => ndX7_close hh (by omega) g15 h15 (fun y16_0 h16 g16 => ndX7_close hh (by omega) g16 h16 (fun y17_0 h17 g17 => (ih (b + 1)).2.2 _ _ _ (by omega) g17 (fun z0 q0 g0 => hQ z0 q0 (hN_mono (by omega) g0)) h17)))))⟩⟩⟩
    · intro t li lj hb g hQ hR
      have hR : wbX11_pairByPeeling_2 (wpX11_pairByPeeling k) k t li lj Q := hR
      show wbX11_pairByPeeling_2 (wpX11_pairByPeeling (h + k)) (h + k) t li lj Q'
      unfold wbX11_pairByPeeling_2 at hR ⊢
      exact fun x1 e1 => (ih (b)).2.1 _ _ _ (by omega) g (fun z0 q0 g0 => hQ z0 q0 (hN_mono (by omega) g0)) (hR x1 e1)
theorem ndX11_pairByPeeling {h b k : Nat} {t : XT}  {Q Q' : XT → Prop} (hh : 300 ≤ h) (hb : b + (0 + 4 * k) < 2147483648) (g : hN b t) (hR : wqX11_pairByPeeling k t  Q) (hQ : ∀ t, Q t → hN (b + (0 + 4 * k)) t → Q' t) : wqX11_pairByPeeling (h + k) t  Q' := (ngX11_pairByPeeling hh Q Q' k b).1 t _ _ hb g hQ hR
set_option maxHeartbeats 4000000 in
set_option maxRecDepth 100000 in
theorem ngX11_pairDownwards {h : Nat} (hh : 300 ≤ h) (Q Q' : XT → Prop) : ∀ (k b : Nat), (∀ (t : XT) (li : Nat → Int32) (lj : Nat → Int64), b + (0 + 4 * k) < 2147483648 → hN b t → (∀ t, Q t → hN (b + (0 + 4 * k)) t → Q' t) → wpX11_pairDownwards k 0 t li lj Q → wpX11_pairDownwards (h + k) 0 t li lj Q') ∧ (∀ (t : XT) (li : Nat → Int32) (lj : Nat → Int64), b + (0 + 4 * k) < 2147483648 → hN b t → (∀ t, Q t → hN (b + (0 + 4 * k)) t → Q' t) → wpX11_pairDownwards k 1 t li lj Q → wpX11_pairDownwards (h + k) 1 t li lj Q') ∧ (∀ (t : XT) (li : Nat → Int32) (lj : Nat → Int64), b + (0 + 4 * k) < 2147483648 → hN b t → (∀ t, Q t → hN (b + (0 + 4 * k)) t → Q' t) → wpX11_pairDownwards k 2 t li lj Q → wpX11_pairDownwards (h + k) 2 t li lj Q') ∧ (∀ (t : XT) (li : Nat → Int32) (lj : Nat → Int64), b + (0 + 4 * k) < 2147483648 → hN b t → (∀ t, Q t → hN (b + (0 + 4 * k)) t → Q' t) → wpX11_pairDownwards k 3 t li lj Q → wpX11_pairDownwards (h + k) 3 t li lj Q') ∧ (∀ (t : XT) (li : Nat → Int32) (lj : Nat → Int64), b + (0 + 4 * k) < 2147483648 → hN b t → (∀ t, Q t → hN (b + (0 + 4 * k)) t → Q' t) → wpX11_pairDownwards k 4 t li lj Q → wpX11_pairDownwards (h + k) 4 t li lj Q') ∧ (∀ (t : XT) (li : Nat → Int32) (lj : Nat → Int64), b + (0 + 4 * k) < 2147483648 → hN b t → (∀ t, Q t → hN (b + (0 + 4 * k)) t → Q' t) → wpX11_pairDownwards k 5 t li lj Q → wpX11_pairDownwards (h + k) 5 t li lj Q') := by
  intro k
  induction k with
  | zero => intro b; exact ⟨fun _ _ _ _ _ _ hR => False.elim hR, fun _ _ _ _ _ _ hR => False.elim hR, fun _ _ _ _ _ _ hR => False.elim hR, fun _ _ _ _ _ _ hR => False.elim hR, fun _ _ _ _ _ _ hR => False.elim hR, fun _ _ _ _ _ _ hR => False.elim hR⟩
  | succ k ih =>
    intro b
    refine ⟨?_, ?_, ?_, ?_, ?_, ?_⟩
    · intro t li lj hb g hQ hR
      have hR : wbX11_pairDownwards_0 (wpX11_pairDownwards k) k t li lj Q := hR
      show wbX11_pairDownwards_0 (wpX11_pairDownwards (h + k)) (h + k) t li lj Q'
      unfold wbX11_pairDownwards_0 at hR ⊢
      exact fun x1 e1 => (ih (b)).2.1 _ _ _ (by omega) g (fun z0 q0 g0 => hQ z0 q0 (hN_mono (by omega) g0)) (hR x1 e1)
    · intro t li lj hb g hQ hR
      have hR : wbX11_pairDownwards_1 (wpX11_pairDownwards k) k t li lj Q := hR
      show wbX11_pairDownwards_1 (wpX11_pairDownwards (h + k)) (h + k) t li lj Q'
      unfold wbX11_pairDownwards_1 at hR ⊢
      exact ⟨fun c1 => hQ _ (hR.1 c1) (hN_mono (by omega) g), fun c2 => ndX6_isCritical hh (by omega) g (hR.2 c2) (fun y3_0 y3_1 h3 g3 => ⟨fun c4 => (ih (b)).2.2.1 _ _ _ (by omega) g3 (fun z0 q0 g0 => hQ z0 q0 (hN_mono (by omega) g0)) (h3.1 c4), fun c5 => ⟨(h3.2 c5).1, fun x6 e6 => ndX6_unpaired hh (by omega) g3 ((h3.2 c5).2 x6 e6) (fun y7_0 y7_1 h7 g7 => fun x8 e8 => (ih (b)).2.2.1 _ _ _ (by omega) g7 (fun z0 q0 g0 => hQ z0 q0 (hN_mono (by omega) g0)) (h7 x8 e8))⟩⟩)⟩
    · intro t li lj hb g hQ hR
      have hR : wbX11_pairDownwards_2 (wpX11_pairDownwards k) k t li lj Q := hR
      show wbX11_pairDownwards_2 (wpX11_pairDownwards (h + k)) (h + k) t li lj Q'
      unfold wbX11_pairDownwards_2 at hR ⊢
      exact fun x1 e1 => (ih (b)).2.2.2.1 _ _ _ (by omega) g (fun z0 q0 g0 => hQ z0 q0 (hN_mono (by omega) g0)) (hR x1 e1)
    · intro t li lj hb g hQ hR
      have hR : wbX11_pairDownwards_3 (wpX11_pairDownwards k) k t li lj Q := hR
      show wbX11_pairDownwards_3 (wpX11_pairDownwards (h + k)) (h + k) t li lj Q'
      unfold wbX11_pairDownwards_3 at hR ⊢
      exact ⟨fun c1 => (ih (b)).2.2.2.2.2 _ _ _ (by omega) g (fun z0 q0 g0 => hQ z0 q0 (hN_mono (by omega) g0)) (hR.1 c1), fun c2 => fun x3 e3 => ⟨fun c4 => (ih (b)).2.2.2.2.2 _ _ _ (by omega) g (fun z0 q0 g0 => hQ z0 q0 (hN_mono (by omega) g0)) (((hR.2 c2) x3 e3).1 c4), fun c5 => ndX11_isIn (((hR.2 c2) x3 e3).2 c5) (fun y6_0 h6 => ⟨fun c7 => (ih (b)).2.2.2.2.1 _ _ _ (by omega) g (fun z0 q0 g0 => hQ z0 q0 (hN_mono (by omega) g0)) (h6.1 c7), fun c8 => ndX6_staysAcyclic hh (by omega) g (h6.2 c8) (fun y9_0 y9_1 h9 g9 => ⟨fun c10 => (ih (b)).2.2.2.2.1 _ _ _ (by omega) g9 (fun z0 q0 g0 => hQ z0 q0 (hN_mono (by omega) g0)) (h9.1 c10), fun c11 => ndX6_unite hh (by omega) g9 (h9.2 c11) (fun y12_0 h12 g12 => (ih (b + 1)).2.2.2.2.1 _ _ _ (by omega) g12 (fun z0 q0 g0 => hQ z0 q0 (hN_mono (by omega) g0)) h12)⟩)⟩)⟩⟩
    · intro t li lj hb g hQ hR
      have hR : wbX11_pairDownwards_4 (wpX11_pairDownwards k) k t li lj Q := hR
      show wbX11_pairDownwards_4 (wpX11_pairDownwards (h + k)) (h + k) t li lj Q'
      unfold wbX11_pairDownwards_4 at hR ⊢
      exact fun x1 e1 => (ih (b)).2.2.2.1 _ _ _ (by omega) g (fun z0 q0 g0 => hQ z0 q0 (hN_mono (by omega) g0)) (hR x1 e1)
    · intro t li lj hb g hQ hR
      have hR : wbX11_pairDownwards_5 (wpX11_pairDownwards k) k t li lj Q := hR
      show wbX11_pairDownwards_5 (wpX11_pairDownwards (h + k)) (h + k) t li lj Q'
      unfold wbX11_pairDownwards_5 at hR ⊢
      exact fun x1 e1 => (ih (b)).2.1 _ _ _ (by omega) g (fun z0 q0 g0 => hQ z0 q0 (hN_mono (by omega) g0)) (hR x1 e1)
theorem ndX11_pairDownwards {h b k : Nat} {t : XT}  {Q Q' : XT → Prop} (hh : 300 ≤ h) (hb : b + (0 + 4 * k) < 2147483648) (g : hN b t) (hR : wqX11_pairDownwards k t  Q) (hQ : ∀ t, Q t → hN (b + (0 + 4 * k)) t → Q' t) : wqX11_pairDownwards (h + k) t  Q' := (ngX11_pairDownwards hh Q Q' k b).1 t _ _ hb g hQ hR
