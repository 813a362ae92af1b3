/-! ===== the class: build changes neither changes nor measuredAt ===== -/
def kp5 (G : XT → Prop) : Prop := (∀ u i v, i ≠ 5 → i ≠ 7 → G u → G (sI u i v)) ∧ (∀ u i v, G u → G (sJ u i v)) ∧ (∀ u i f, G u → G (sA u i f)) ∧ (∀ u i f, G u → G (sB u i f))
set_option maxHeartbeats 4000000 in
set_option maxRecDepth 100000 in
theorem wrX9_add {G : XT → Prop} (hk : kp5 G) (Q : XT → Prop) : ∀ k : Nat, (∀ (t : XT) (li : Nat → Int32) (lj : Nat → Int64), G t → wpX9_add k 0 t li lj Q → wpX9_add k 0 t li lj (fun t => Q t ∧ G t)) ∧ (∀ (t : XT) (li : Nat → Int32) (lj : Nat → Int64), G t → wpX9_add k 1 t li lj Q → wpX9_add k 1 t li lj (fun t => Q t ∧ G t)) ∧ (∀ (t : XT) (li : Nat → Int32) (lj : Nat → Int64), G t → wpX9_add k 2 t li lj Q → wpX9_add k 2 t li lj (fun t => Q t ∧ G t)) ∧ (∀ (t : XT) (li : Nat → Int32) (lj : Nat → Int64), G t → wpX9_add k 3 t li lj Q → wpX9_add k 3 t li lj (fun t => Q t ∧ G t)) := by
  intro k
  induction k with
  | zero => exact ⟨fun _ _ _ _ hR => False.elim hR, fun _ _ _ _ hR => False.elim hR, fun _ _ _ _ hR => False.elim hR, fun _ _ _ _ hR => False.elim hR⟩
  | succ k ih =>
    refine ⟨?_, ?_, ?_, ?_⟩
    · intro t li lj g hR
      have hR : wbX9_add_0 (wpX9_add k) k t li lj Q := hR
      show wbX9_add_0 (wpX9_add k) k t li lj (fun t => Q t ∧ G t)
      unfold wbX9_add_0 at hR ⊢
      exact ⟨hR.1, fun x1 e1 => have g1 : G x1 := (by rw [e1]; exact hk.2.2.1 _ _ _ g); ⟨(hR.2 x1 e1).1, fun x2 e2 => have g2 : G x2 := (by rw [e2]; exact hk.2.2.1 _ _ _ g1); ⟨((hR.2 x1 e1).2 x2 e2).1, fun x3 e3 => have g3 : G x3 := (by rw [e3]; exact hk.2.2.1 _ _ _ g2); ⟨(((hR.2 x1 e1).2 x2 e2).2 x3 e3).1, fun x4 e4 => wcX11_bit ((((hR.2 x1 e1).2 x2 e2).2 x3 e3).2 x4 e4) (fun y5_0 h5 => fun x6 e6 => ⟨(h5 x6 e6).1, fun x7 e7 => have g7 : G x7 := (by rw [e7]; exact hk.2.2.2 _ _ _ g3); ih.2.1 _ _ _ g7 ((h5 x6 e6).2 x7 e7)⟩)⟩⟩⟩⟩
    · intro t li lj g hR
      have hR : wbX9_add_1 (wpX9_add k) k t li lj Q := hR
      show wbX9_add_1 (wpX9_add k) k t li lj (fun t => Q t ∧ G t)
      unfold wbX9_add_1 at hR ⊢
      exact ⟨fun c1 => fun x2 e2 => fun x3 e3 => have g3 : G x3 := (by rw [e3]; exact hk.1 _ _ _ (by decide) (by decide) g); ⟨(((hR.1 c1) x2 e2) x3 e3), g3⟩, fun c4 => fun x5 e5 => fun x6 e6 => fun x7 e7 => ⟨fun c8 => ih.2.2.1 _ _ _ g (((((hR.2 c4) x5 e5) x6 e6) x7 e7).1 c8), fun c9 => ⟨(((((hR.2 c4) x5 e5) x6 e6) x7 e7).2 c9).1, fun x10 e10 => ih.2.2.1 _ _ _ g ((((((hR.2 c4) x5 e5) x6 e6) x7 e7).2 c9).2 x10 e10)⟩⟩⟩
    · intro t li lj g hR
      have hR : wbX9_add_2 (wpX9_add k) k t li lj Q := hR
      show wbX9_add_2 (wpX9_add k) k t li lj (fun t => Q t ∧ G t)
      unfold wbX9_add_2 at hR ⊢
      exact ⟨fun c1 => ih.2.2.2 _ _ _ g (hR.1 c1), fun c2 => ⟨(hR.2 c2).1, fun x3 e3 => wcX11_bit ((hR.2 c2).2 x3 e3) (fun y4_0 h4 => fun x5 e5 => ⟨(h4 x5 e5).1, fun x6 e6 => have g6 : G x6 := (by rw [e6]; exact hk.2.2.2 _ _ _ g); ⟨((h4 x5 e5).2 x6 e6).1, fun x7 e7 => wcX11_bit (((h4 x5 e5).2 x6 e6).2 x7 e7) (fun y8_0 h8 => fun x9 e9 => ⟨(h8 x9 e9).1, fun x10 e10 => have g10 : G x10 := (by rw [e10]; exact hk.2.2.2 _ _ _ g6); ih.2.2.2 _ _ _ g10 ((h8 x9 e9).2 x10 e10)⟩)⟩⟩)⟩⟩
    · intro t li lj g hR
      have hR : wbX9_add_3 (wpX9_add k) k t li lj Q := hR
      show wbX9_add_3 (wpX9_add k) k t li lj (fun t => Q t ∧ G t)
      unfold wbX9_add_3 at hR ⊢
      exact fun x1 e1 => ih.2.1 _ _ _ g (hR x1 e1)
theorem wuX9_add {G : XT → Prop} {k : Nat} {t : XT} {a1 : Int32} {a2 : Int32} {Q : XT → Prop} (hk : kp5 G) (g : G t) (hR : wqX9_add k t a1 a2 Q) : wqX9_add k t a1 a2 (fun t => Q t ∧ G t) := (wrX9_add hk Q k).1 t _ _ g hR
theorem wvX9_add {G : XT → Prop} {k : Nat} {t : XT} {a1 : Int32} {a2 : Int32} {Q Q' : XT → Prop} (hk : kp5 G) (g : G t) (hR : wqX9_add k t a1 a2 Q) (hQ : (∀ t, Q t → G t → Q' t)) : wqX9_add k t a1 a2 Q' := wmX9_add (Nat.le_refl k) (fun t h => hQ t h.1 h.2) (wuX9_add hk g hR)
set_option maxHeartbeats 4000000 in
set_option maxRecDepth 100000 in
theorem wrX9_build_c13 {G : XT → Prop} (hk : kp5 G) (Q : XT → Prop) : ∀ k : Nat, (∀ (t : XT) (li : Nat → Int32) (lj : Nat → Int64), G t → wpX9_build_c13 k 0 t li lj Q → wpX9_build_c13 k 0 t li lj (fun t => Q t ∧ G t)) ∧ (∀ (t : XT) (li : Nat → Int32) (lj : Nat → Int64), G t → wpX9_build_c13 k 1 t li lj Q → wpX9_build_c13 k 1 t li lj (fun t => Q t ∧ G t)) ∧ (∀ (t : XT) (li : Nat → Int32) (lj : Nat → Int64), G t → wpX9_build_c13 k 2 t li lj Q → wpX9_build_c13 k 2 t li lj (fun t => Q t ∧ G t)) ∧ (∀ (t : XT) (li : Nat → Int32) (lj : Nat → Int64), G t → wpX9_build_c13 k 3 t li lj Q → wpX9_build_c13 k 3 t li lj (fun t => Q t ∧ G t)) ∧ (∀ (t : XT) (li : Nat → Int32) (lj : Nat → Int64), G t → wpX9_build_c13 k 4 t li lj Q → wpX9_build_c13 k 4 t li lj (fun t => Q t ∧ G t)) := by
  intro k
  induction k with
  | zero => exact ⟨fun _ _ _ _ hR => False.elim hR, fun _ _ _ _ hR => False.elim hR, fun _ _ _ _ hR => False.elim hR, fun _ _ _ _ hR => False.elim hR, fun _ _ _ _ hR => False.elim hR⟩
  | succ k ih =>
    refine ⟨?_, ?_, ?_, ?_, ?_⟩
    · intro t li lj g hR
      have hR : wbX9_build_c13_0 (wpX9_build_c13 k) k t li lj Q := hR
      show wbX9_build_c13_0 (wpX9_build_c13 k) k t li lj (fun t => Q t ∧ G t)
      unfold wbX9_build_c13_0 at hR ⊢
      exact fun x1 e1 => have g1 : G x1 := (by rw [e1]; exact hk.1 _ _ _ (by decide) (by decide) g); fun x2 e2 => have g2 : G x2 := (by rw [e2]; exact hk.2.2.1 _ _ _ g1); fun x3 e3 => have g3 : G x3 := (by rw [e3]; exact hk.2.2.2 _ _ _ g2); fun x4 e4 => have g4 : G x4 := (by rw [e4]; exact hk.2.2.2 _ _ _ g3); fun x5 e5 => have g5 : G x5 := (by rw [e5]; exact hk.2.2.2 _ _ _ g4); ih.2.1 _ _ _ g5 (((((hR x1 e1) x2 e2) x3 e3) x4 e4) x5 e5)
    · intro t li lj g hR
      have hR : wbX9_build_c13_1 (wpX9_build_c13 k) k t li lj Q := hR
      show wbX9_build_c13_1 (wpX9_build_c13 k) k t li lj (fun t => Q t ∧ G t)
      unfold wbX9_build_c13_1 at hR ⊢
      exact ⟨fun c1 => ⟨(hR.1 c1), g⟩, fun c2 => ih.2.2.1 _ _ _ g (hR.2 c2)⟩
    · intro t li lj g hR
      have hR : wbX9_build_c13_2 (wpX9_build_c13 k) k t li lj Q := hR
      show wbX9_build_c13_2 (wpX9_build_c13 k) k t li lj (fun t => Q t ∧ G t)
      unfold wbX9_build_c13_2 at hR ⊢
      exact ⟨fun c1 => ih.2.2.2.2 _ _ _ g (hR.1 c1), fun c2 => ⟨fun c3 => ih.2.2.2.2 _ _ _ g ((hR.2 c2).1 c3), fun c4 => ⟨((hR.2 c2).2 c4).1, fun x5 e5 => ⟨fun c6 => ih.2.2.2.1 _ _ _ g ((((hR.2 c2).2 c4).2 x5 e5).1 c6), fun c7 => wcJ6_bitCount_0f7a4 ((((hR.2 c2).2 c4).2 x5 e5).2 c7) (fun y8_0 h8 => fun x9 e9 => ⟨fun c10 => ih.2.2.2.1 _ _ _ g ((h8 x9 e9).1 c10), fun c11 => ⟨fun c12 => ih.2.2.2.1 _ _ _ g (((h8 x9 e9).2 c11).1 c12), fun c13 => wvX9_add hk g (((h8 x9 e9).2 c11).2 c13) (fun y14_0 h14 g14 => ih.2.2.2.1 _ _ _ g14 h14)⟩⟩)⟩⟩⟩⟩
    · intro t li lj g hR
      have hR : wbX9_build_c13_3 (wpX9_build_c13 k) k t li lj Q := hR
      show wbX9_build_c13_3 (wpX9_build_c13 k) k t li lj (fun t => Q t ∧ G t)
      unfold wbX9_build_c13_3 at hR ⊢
      exact fun x1 e1 => ih.2.2.1 _ _ _ g (hR x1 e1)
    · intro t li lj g hR
      have hR : wbX9_build_c13_4 (wpX9_build_c13 k) k t li lj Q := hR
      show wbX9_build_c13_4 (wpX9_build_c13 k) k t li lj (fun t => Q t ∧ G t)
      unfold wbX9_build_c13_4 at hR ⊢
      exact fun x1 e1 => ih.2.1 _ _ _ g (hR x1 e1)
theorem wuX9_build_c13 {G : XT → Prop} {k : Nat} {t : XT}  {Q : XT → Prop} (hk : kp5 G) (g : G t) (hR : wqX9_build_c13 k t  Q) : wqX9_build_c13 k t  (fun t => Q t ∧ G t) := (wrX9_build_c13 hk Q k).1 t _ _ g hR
theorem wvX9_build_c13 {G : XT → Prop} {k : Nat} {t : XT}  {Q Q' : XT → Prop} (hk : kp5 G) (g : G t) (hR : wqX9_build_c13 k t  Q) (hQ : (∀ t, Q t → G t → Q' t)) : wqX9_build_c13 k t  Q' := wmX9_build_c13 (Nat.le_refl k) (fun t h => hQ t h.1 h.2) (wuX9_build_c13 hk g hR)
