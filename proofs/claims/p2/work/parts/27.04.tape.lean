set_option maxHeartbeats 4000000 in
set_option maxRecDepth 100000 in
theorem vfX2_upTo {G : XT → Prop} (hk : kpA G) (Q : Int64 → XT → Prop) : ∀ k : Nat, (∀ (t : XT) (li : Nat → Int32) (lj : Nat → Int64), G t → wpX2_upTo k 0 t li lj Q → wpX2_upTo k 0 t li lj (fun r t => Q r t ∧ G t)) ∧ (∀ (t : XT) (li : Nat → Int32) (lj : Nat → Int64), G t → wpX2_upTo k 1 t li lj Q → wpX2_upTo k 1 t li lj (fun r t => Q r t ∧ G t)) ∧ (∀ (t : XT) (li : Nat → Int32) (lj : Nat → Int64), G t → wpX2_upTo k 2 t li lj Q → wpX2_upTo k 2 t li lj (fun r t => Q r t ∧ G t)) := by
  intro k
  induction k with
  | zero => exact ⟨fun _ _ _ _ hR => False.elim hR, fun _ _ _ _ hR => False.elim hR, fun _ _ _ _ hR => False.elim hR⟩
  | succ k ih =>
    refine ⟨?_, ?_, ?_⟩
    · intro t li lj g hR
      have hR : wbX2_upTo_0 (wpX2_upTo k) k t li lj Q := hR
      show wbX2_upTo_0 (wpX2_upTo k) k t li lj (fun r t => Q r t ∧ G t)
      unfold wbX2_upTo_0 at hR ⊢
      exact vtX2_measure hk g hR (fun y1_0 h1 g1 => ih.2.1 _ _ _ g1 h1)
    · intro t li lj g hR
      have hR : wbX2_upTo_1 (wpX2_upTo k) k t li lj Q := hR
      show wbX2_upTo_1 (wpX2_upTo k) k t li lj (fun r t => Q r t ∧ G t)
      unfold wbX2_upTo_1 at hR ⊢
      exact ⟨fun c1 => ⟨(hR.1 c1), g⟩, fun c2 => ⟨(hR.2 c2).1, fun x3 e3 => ⟨((hR.2 c2).2 x3 e3).1, fun x4 e4 => ⟨fun c5 => ih.2.2 _ _ _ g ((((hR.2 c2).2 x3 e3).2 x4 e4).1 c5), fun c6 => ⟨((((hR.2 c2).2 x3 e3).2 x4 e4).2 c6).1, fun x7 e7 => wcX11_bit (((((hR.2 c2).2 x3 e3).2 x4 e4).2 c6).2 x7 e7) (fun y8_0 h8 => fun x9 e9 => ih.2.2 _ _ _ g (h8 x9 e9))⟩⟩⟩⟩⟩
    · intro t li lj g hR
      have hR : wbX2_upTo_2 (wpX2_upTo k) k t li lj Q := hR
      show wbX2_upTo_2 (wpX2_upTo k) k t li lj (fun r t => Q r t ∧ G t)
      unfold wbX2_upTo_2 at hR ⊢
      exact fun x1 e1 => ih.2.1 _ _ _ g (hR x1 e1)
theorem vgX2_upTo {G : XT → Prop} {k : Nat} {t : XT} {a1 : Int32} {Q : Int64 → XT → Prop} (hk : kpA G) (g : G t) (hR : wqX2_upTo k t a1 Q) : wqX2_upTo k t a1 (fun r t => Q r t ∧ G t) := (vfX2_upTo hk Q k).1 t _ _ g hR
theorem vtX2_upTo {G : XT → Prop} {k : Nat} {t : XT} {a1 : Int32} {Q Q' : Int64 → XT → Prop} (hk : kpA G) (g : G t) (hR : wqX2_upTo k t a1 Q) (hQ : (∀ r t, Q r t → G t → Q' r t)) : wqX2_upTo k t a1 Q' := wmX2_upTo (Nat.le_refl k) (fun r t h => hQ r t h.1 h.2) (vgX2_upTo hk g hR)
set_option maxHeartbeats 4000000 in
set_option maxRecDepth 100000 in
theorem vfX11_level {G : XT → Prop} (hk : kpA G) (Q : Int32 → XT → Prop) : ∀ k : Nat, (∀ (t : XT) (li : Nat → Int32) (lj : Nat → Int64), G t → wpX11_level k 0 t li lj Q → wpX11_level k 0 t li lj (fun r t => Q r t ∧ G t)) ∧ (∀ (t : XT) (li : Nat → Int32) (lj : Nat → Int64), G t → wpX11_level k 1 t li lj Q → wpX11_level k 1 t li lj (fun r t => Q r t ∧ G t)) := by
  intro k
  induction k with
  | zero => exact ⟨fun _ _ _ _ hR => False.elim hR, fun _ _ _ _ hR => False.elim hR⟩
  | succ k ih =>
    refine ⟨?_, ?_⟩
    · intro t li lj g hR
      have hR : wbX11_level_0 (wpX11_level k) k t li lj Q := hR
      show wbX11_level_0 (wpX11_level k) k t li lj (fun r t => Q r t ∧ G t)
      unfold wbX11_level_0 at hR ⊢
      exact ⟨fun c1 => ih.2 _ _ _ g (hR.1 c1), fun c2 => ⟨fun c3 => ih.2 _ _ _ g ((hR.2 c2).1 c3), fun c4 => ⟨fun c5 => vtX2_upTo hk g (((hR.2 c2).2 c4).1 c5) (fun y6_0 y6_1 h6 g6 => ⟨fun c7 => vtX9_eulerOf hk g6 (h6.1 c7) (fun y8_0 y8_1 h8 g8 => ⟨h8, g8⟩), fun c9 => wcJ13_bitCount_95d88 (h6.2 c9) (fun y10_0 h10 => ⟨h10, g6⟩)⟩), fun c11 => ih.2 _ _ _ g (((hR.2 c2).2 c4).2 c11)⟩⟩⟩
    · intro t li lj g hR
      have hR : wbX11_level_1 (wpX11_level k) k t li lj Q := hR
      show wbX11_level_1 (wpX11_level k) k t li lj (fun r t => Q r t ∧ G t)
      unfold wbX11_level_1 at hR ⊢
      exact ⟨hR, g⟩
theorem vgX11_level {G : XT → Prop} {k : Nat} {t : XT} {a1 : Int32} {a2 : Int32} {Q : Int32 → XT → Prop} (hk : kpA G) (g : G t) (hR : wqX11_level k t a1 a2 Q) : wqX11_level k t a1 a2 (fun r t => Q r t ∧ G t) := (vfX11_level hk Q k).1 t _ _ g hR
theorem vtX11_level {G : XT → Prop} {k : Nat} {t : XT} {a1 : Int32} {a2 : Int32} {Q Q' : Int32 → XT → Prop} (hk : kpA G) (g : G t) (hR : wqX11_level k t a1 a2 Q) (hQ : (∀ r t, Q r t → G t → Q' r t)) : wqX11_level k t a1 a2 Q' := wmX11_level (Nat.le_refl k) (fun r t h => hQ r t h.1 h.2) (vgX11_level hk g hR)
set_option maxHeartbeats 4000000 in
set_option maxRecDepth 100000 in
theorem vfX9_withFaces {G : XT → Prop} (hk : kpA G) (Q : Int64 → XT → Prop) : ∀ k : Nat, (∀ (t : XT) (li : Nat → Int32) (lj : Nat → Int64), G t → wpX9_withFaces k 0 t li lj Q → wpX9_withFaces k 0 t li lj (fun r t => Q r t ∧ G t)) ∧ (∀ (t : XT) (li : Nat → Int32) (lj : Nat → Int64), G t → wpX9_withFaces k 1 t li lj Q → wpX9_withFaces k 1 t li lj (fun r t => Q r t ∧ G t)) ∧ (∀ (t : XT) (li : Nat → Int32) (lj : Nat → Int64), G t → wpX9_withFaces k 2 t li lj Q → wpX9_withFaces k 2 t li lj (fun r t => Q r t ∧ G t)) := by
  intro k
  induction k with
  | zero => exact ⟨fun _ _ _ _ hR => False.elim hR, fun _ _ _ _ hR => False.elim hR, fun _ _ _ _ hR => False.elim hR⟩
  | succ k ih =>
    refine ⟨?_, ?_, ?_⟩
    · intro t li lj g hR
      have hR : wbX9_withFaces_0 (wpX9_withFaces k) k t li lj Q := hR
      show wbX9_withFaces_0 (wpX9_withFaces k) k t li lj (fun r t => Q r t ∧ G t)
      unfold wbX9_withFaces_0 at hR ⊢
      exact fun x1 e1 => ih.2.1 _ _ _ g (hR x1 e1)
    · intro t li lj g hR
      have hR : wbX9_withFaces_1 (wpX9_withFaces k) k t li lj Q := hR
      show wbX9_withFaces_1 (wpX9_withFaces k) k t li lj (fun r t => Q r t ∧ G t)
      unfold wbX9_withFaces_1 at hR ⊢
      exact ⟨fun c1 => ⟨(hR.1 c1), g⟩, fun c2 => wcX11_isIn (hR.2 c2) (fun y3_0 h3 => ⟨fun c4 => ih.2.2 _ _ _ g (h3.1 c4), fun c5 => ⟨(h3.2 c5).1, fun x6 e6 => fun x7 e7 => ih.2.2 _ _ _ g (((h3.2 c5).2 x6 e6) x7 e7)⟩⟩)⟩
    · intro t li lj g hR
      have hR : wbX9_withFaces_2 (wpX9_withFaces k) k t li lj Q := hR
      show wbX9_withFaces_2 (wpX9_withFaces k) k t li lj (fun r t => Q r t ∧ G t)
      unfold wbX9_withFaces_2 at hR ⊢
      exact fun x1 e1 => ih.2.1 _ _ _ g (hR x1 e1)
theorem vgX9_withFaces {G : XT → Prop} {k : Nat} {t : XT} {a1 : Int64} {Q : Int64 → XT → Prop} (hk : kpA G) (g : G t) (hR : wqX9_withFaces k t a1 Q) : wqX9_withFaces k t a1 (fun r t => Q r t ∧ G t) := (vfX9_withFaces hk Q k).1 t _ _ g hR
theorem vtX9_withFaces {G : XT → Prop} {k : Nat} {t : XT} {a1 : Int64} {Q Q' : Int64 → XT → Prop} (hk : kpA G) (g : G t) (hR : wqX9_withFaces k t a1 Q) (hQ : (∀ r t, Q r t → G t → Q' r t)) : wqX9_withFaces k t a1 Q' := wmX9_withFaces (Nat.le_refl k) (fun r t h => hQ r t h.1 h.2) (vgX9_withFaces hk g hR)
set_option maxHeartbeats 4000000 in
set_option maxRecDepth 100000 in
theorem vfX11_levelBetti {G : XT → Prop} (hk : kpA G) (Q : Int32 → XT → Prop) : ∀ k : Nat, (∀ (t : XT) (li : Nat → Int32) (lj : Nat → Int64), G t → wpX11_levelBetti k 0 t li lj Q → wpX11_levelBetti k 0 t li lj (fun r t => Q r t ∧ G t)) ∧ (∀ (t : XT) (li : Nat → Int32) (lj : Nat → Int64), G t → wpX11_levelBetti k 1 t li lj Q → wpX11_levelBetti k 1 t li lj (fun r t => Q r t ∧ G t)) := by
  intro k
  induction k with
  | zero => exact ⟨fun _ _ _ _ hR => False.elim hR, fun _ _ _ _ hR => False.elim hR⟩
  | succ k ih =>
    refine ⟨?_, ?_⟩
    · intro t li lj g hR
      have hR : wbX11_levelBetti_0 (wpX11_levelBetti k) k t li lj Q := hR
      show wbX11_levelBetti_0 (wpX11_levelBetti k) k t li lj (fun r t => Q r t ∧ G t)
      unfold wbX11_levelBetti_0 at hR ⊢
      exact ⟨fun c1 => ih.2 _ _ _ g (hR.1 c1), fun c2 => wcX11_isDim (hR.2 c2) (fun y3_0 h3 => ⟨fun c4 => vtX2_upTo hk g (h3.1 c4) (fun y5_0 y5_1 h5 g5 => vtX9_withFaces hk g5 h5 (fun y6_0 y6_1 h6 g6 => vtX0_bettiOf hk g6 h6 (fun y7_0 y7_1 h7 g7 => ⟨h7, g7⟩))), fun c8 => ih.2 _ _ _ g (h3.2 c8)⟩)⟩
    · intro t li lj g hR
      have hR : wbX11_levelBetti_1 (wpX11_levelBetti k) k t li lj Q := hR
      show wbX11_levelBetti_1 (wpX11_levelBetti k) k t li lj (fun r t => Q r t ∧ G t)
      unfold wbX11_levelBetti_1 at hR ⊢
      exact ⟨hR, g⟩
theorem vgX11_levelBetti {G : XT → Prop} {k : Nat} {t : XT} {a1 : Int32} {a2 : Int32} {Q : Int32 → XT → Prop} (hk : kpA G) (g : G t) (hR : wqX11_levelBetti k t a1 a2 Q) : wqX11_levelBetti k t a1 a2 (fun r t => Q r t ∧ G t) := (vfX11_levelBetti hk Q k).1 t _ _ g hR
theorem vtX11_levelBetti {G : XT → Prop} {k : Nat} {t : XT} {a1 : Int32} {a2 : Int32} {Q Q' : Int32 → XT → Prop} (hk : kpA G) (g : G t) (hR : wqX11_levelBetti k t a1 a2 Q) (hQ : (∀ r t, Q r t → G t → Q' r t)) : wqX11_levelBetti k t a1 a2 Q' := wmX11_levelBetti (Nat.le_refl k) (fun r t h => hQ r t h.1 h.2) (vgX11_levelBetti hk g hR)
set_option maxHeartbeats 4000000 in
set_option maxRecDepth 100000 in
theorem vfX4_store_c4 {G : XT → Prop} (hk : kpA G) (Q : XT → Prop) : ∀ k : Nat, (∀ (t : XT) (li : Nat → Int32) (lj : Nat → Int64), G t → wpX4_store_c4 k 0 t li lj Q → wpX4_store_c4 k 0 t li lj (fun t => Q t ∧ G t)) := by
  intro k
  induction k with
  | zero => exact fun _ _ _ _ hR => False.elim hR
  | succ k ih =>
    intro t li lj g hR
    have hR : wbX4_store_c4_0 (wpX4_store_c4 k) k t li lj Q := hR
    show wbX4_store_c4_0 (wpX4_store_c4 k) k t li lj (fun t => Q t ∧ G t)
    unfold wbX4_store_c4_0 at hR ⊢
    exact fun x1 e1 => ⟨(hR x1 e1).1, (hR x1 e1).2.1, (hR x1 e1).2.2.1, (hR x1 e1).2.2.2.1, (hR x1 e1).2.2.2.2.1, fun x2 e2 => have g2 : G x2 := (by rw [e2]; exact hk.2.2.1 _ _ _ (by decide) g); wcX11_bit ((hR x1 e1).2.2.2.2.2 x2 e2) (fun y3_0 h3 => fun x4 e4 => fun x5 e5 => have g5 : G x5 := (by rw [e5]; exact hk.2.1 _ _ _ g2); ⟨((h3 x4 e4) x5 e5), g5⟩)⟩
theorem vgX4_store_c4 {G : XT → Prop} {k : Nat} {t : XT} {a1 : Int32} {Q : XT → Prop} (hk : kpA G) (g : G t) (hR : wqX4_store_c4 k t a1 Q) : wqX4_store_c4 k t a1 (fun t => Q t ∧ G t) := (vfX4_store_c4 hk Q k) t _ _ g hR
theorem vtX4_store_c4 {G : XT → Prop} {k : Nat} {t : XT} {a1 : Int32} {Q Q' : XT → Prop} (hk : kpA G) (g : G t) (hR : wqX4_store_c4 k t a1 Q) (hQ : (∀ t, Q t → G t → Q' t)) : wqX4_store_c4 k t a1 Q' := wmX4_store_c4 (Nat.le_refl k) (fun t h => hQ t h.1 h.2) (vgX4_store_c4 hk g hR)
set_option maxHeartbeats 4000000 in
set_option maxRecDepth 100000 in
theorem vfX6_howMany {G : XT → Prop} (hk : kpA G) (Q : Int32 → XT → Prop) : ∀ k : Nat, (∀ (t : XT) (li : Nat → Int32) (lj : Nat → Int64), G t → wpX6_howMany k 0 t li lj Q → wpX6_howMany k 0 t li lj (fun r t => Q r t ∧ G t)) := by
  intro k
  induction k with
  | zero => exact fun _ _ _ _ hR => False.elim hR
  | succ k ih =>
    intro t li lj g hR
    have hR : wbX6_howMany_0 (wpX6_howMany k) k t li lj Q := hR
    show wbX6_howMany_0 (wpX6_howMany k) k t li lj (fun r t => Q r t ∧ G t)
    unfold wbX6_howMany_0 at hR ⊢
    exact wcJ13_bitCount_95d88 hR (fun y1_0 h1 => ⟨h1, g⟩)
theorem vgX6_howMany {G : XT → Prop} {k : Nat} {t : XT}  {Q : Int32 → XT → Prop} (hk : kpA G) (g : G t) (hR : wqX6_howMany k t  Q) : wqX6_howMany k t  (fun r t => Q r t ∧ G t) := (vfX6_howMany hk Q k) t _ _ g hR
theorem vtX6_howMany {G : XT → Prop} {k : Nat} {t : XT}  {Q Q' : Int32 → XT → Prop} (hk : kpA G) (g : G t) (hR : wqX6_howMany k t  Q) (hQ : (∀ r t, Q r t → G t → Q' r t)) : wqX6_howMany k t  Q' := wmX6_howMany (Nat.le_refl k) (fun r t h => hQ r t h.1 h.2) (vgX6_howMany hk g hR)
set_option maxHeartbeats 4000000 in
set_option maxRecDepth 100000 in
theorem vfX11_keep {G : XT → Prop} (hk : kpA G) (Q : Int32 → XT → Prop) : ∀ k : Nat, (∀ (t : XT) (li : Nat → Int32) (lj : Nat → Int64), G t → wpX11_keep k 0 t li lj Q → wpX11_keep k 0 t li lj (fun r t => Q r t ∧ G t)) ∧ (∀ (t : XT) (li : Nat → Int32) (lj : Nat → Int64), G t → wpX11_keep k 1 t li lj Q → wpX11_keep k 1 t li lj (fun r t => Q r t ∧ G t)) := by
  intro k
  induction k with
  | zero => exact ⟨fun _ _ _ _ hR => False.elim hR, fun _ _ _ _ hR => False.elim hR⟩
  | succ k ih =>
    refine ⟨?_, ?_⟩
    · intro t li lj g hR
      have hR : wbX11_keep_0 (wpX11_keep k) k t li lj Q := hR
      show wbX11_keep_0 (wpX11_keep k) k t li lj (fun r t => Q r t ∧ G t)
      unfold wbX11_keep_0 at hR ⊢
      exact ⟨fun c1 => ih.2 _ _ _ g (hR.1 c1), fun c2 => ⟨fun c3 => ih.2 _ _ _ g ((hR.2 c2).1 c3), fun c4 => ⟨fun c5 => vtX4_store_c4 hk g (((hR.2 c2).2 c4).1 c5) (fun y6_0 h6 g6 => vtX6_howMany hk g6 h6 (fun y7_0 y7_1 h7 g7 => ⟨h7, g7⟩)), fun c8 => ih.2 _ _ _ g (((hR.2 c2).2 c4).2 c8)⟩⟩⟩
    · intro t li lj g hR
      have hR : wbX11_keep_1 (wpX11_keep k) k t li lj Q := hR
      show wbX11_keep_1 (wpX11_keep k) k t li lj (fun r t => Q r t ∧ G t)
      unfold wbX11_keep_1 at hR ⊢
      exact ⟨hR, g⟩
theorem vgX11_keep {G : XT → Prop} {k : Nat} {t : XT} {a1 : Int32} {Q : Int32 → XT → Prop} (hk : kpA G) (g : G t) (hR : wqX11_keep k t a1 Q) : wqX11_keep k t a1 (fun r t => Q r t ∧ G t) := (vfX11_keep hk Q k).1 t _ _ g hR
theorem vtX11_keep {G : XT → Prop} {k : Nat} {t : XT} {a1 : Int32} {Q Q' : Int32 → XT → Prop} (hk : kpA G) (g : G t) (hR : wqX11_keep k t a1 Q) (hQ : (∀ r t, Q r t → G t → Q' r t)) : wqX11_keep k t a1 Q' := wmX11_keep (Nat.le_refl k) (fun r t h => hQ r t h.1 h.2) (vgX11_keep hk g hR)
set_option maxHeartbeats 4000000 in
set_option maxRecDepth 100000 in
theorem vfX4_shared_c4 {G : XT → Prop} (hk : kpA G) (Q : Int32 → XT → Prop) : ∀ k : Nat, (∀ (t : XT) (li : Nat → Int32) (lj : Nat → Int64), G t → wpX4_shared_c4 k 0 t li lj Q → wpX4_shared_c4 k 0 t li lj (fun r t => Q r t ∧ G t)) ∧ (∀ (t : XT) (li : Nat → Int32) (lj : Nat → Int64), G t → wpX4_shared_c4 k 1 t li lj Q → wpX4_shared_c4 k 1 t li lj (fun r t => Q r t ∧ G t)) ∧ (∀ (t : XT) (li : Nat → Int32) (lj : Nat → Int64), G t → wpX4_shared_c4 k 2 t li lj Q → wpX4_shared_c4 k 2 t li lj (fun r t => Q r t ∧ G t)) := by
  intro k
  induction k with
  | zero => exact ⟨fun _ _ _ _ hR => False.elim hR, fun _ _ _ _ hR => False.elim hR, fun _ _ _ _ hR => False.elim hR⟩
  | succ k ih =>
    refine ⟨?_, ?_, ?_⟩
    · intro t li lj g hR
      have hR : wbX4_shared_c4_0 (wpX4_shared_c4 k) k t li lj Q := hR
      show wbX4_shared_c4_0 (wpX4_shared_c4 k) k t li lj (fun r t => Q r t ∧ G t)
      unfold wbX4_shared_c4_0 at hR ⊢
      exact ih.2.1 _ _ _ g hR
    · intro t li lj g hR
      have hR : wbX4_shared_c4_1 (wpX4_shared_c4 k) k t li lj Q := hR
      show wbX4_shared_c4_1 (wpX4_shared_c4 k) k t li lj (fun r t => Q r t ∧ G t)
      unfold wbX4_shared_c4_1 at hR ⊢
      exact ⟨fun c1 => ⟨(hR.1 c1), g⟩, fun c2 => ⟨(hR.2 c2).1, fun x3 e3 => ⟨fun c4 => ih.2.2 _ _ _ g (((hR.2 c2).2 x3 e3).1 c4), fun c5 => ⟨(((hR.2 c2).2 x3 e3).2 c5).1, fun x6 e6 => fun x7 e7 => fun x8 e8 => ⟨((((((hR.2 c2).2 x3 e3).2 c5).2 x6 e6) x7 e7) x8 e8).1, fun x9 e9 => ⟨fun c10 => ih.2.2 _ _ _ g ((((((((hR.2 c2).2 x3 e3).2 c5).2 x6 e6) x7 e7) x8 e8).2 x9 e9).1 c10), fun c11 => fun x12 e12 => ih.2.2 _ _ _ g (((((((((hR.2 c2).2 x3 e3).2 c5).2 x6 e6) x7 e7) x8 e8).2 x9 e9).2 c11) x12 e12)⟩⟩⟩⟩⟩⟩
    · intro t li lj g hR
      have hR : wbX4_shared_c4_2 (wpX4_shared_c4 k) k t li lj Q := hR
      show wbX4_shared_c4_2 (wpX4_shared_c4 k) k t li lj (fun r t => Q r t ∧ G t)
      unfold wbX4_shared_c4_2 at hR ⊢
      exact fun x1 e1 => ih.2.1 _ _ _ g (hR x1 e1)
theorem vgX4_shared_c4 {G : XT → Prop} {k : Nat} {t : XT} {a1 : Int32} {Q : Int32 → XT → Prop} (hk : kpA G) (g : G t) (hR : wqX4_shared_c4 k t a1 Q) : wqX4_shared_c4 k t a1 (fun r t => Q r t ∧ G t) := (vfX4_shared_c4 hk Q k).1 t _ _ g hR
theorem vtX4_shared_c4 {G : XT → Prop} {k : Nat} {t : XT} {a1 : Int32} {Q Q' : Int32 → XT → Prop} (hk : kpA G) (g : G t) (hR : wqX4_shared_c4 k t a1 Q) (hQ : (∀ r t, Q r t → G t → Q' r t)) : wqX4_shared_c4 k t a1 Q' := wmX4_shared_c4 (Nat.le_refl k) (fun r t h => hQ r t h.1 h.2) (vgX4_shared_c4 hk g hR)
set_option maxHeartbeats 4000000 in
set_option maxRecDepth 100000 in
theorem vfX11_same {G : XT → Prop} (hk : kpA G) (Q : Int32 → XT → Prop) : ∀ k : Nat, (∀ (t : XT) (li : Nat → Int32) (lj : Nat → Int64), G t → wpX11_same k 0 t li lj Q → wpX11_same k 0 t li lj (fun r t => Q r t ∧ G t)) ∧ (∀ (t : XT) (li : Nat → Int32) (lj : Nat → Int64), G t → wpX11_same k 1 t li lj Q → wpX11_same k 1 t li lj (fun r t => Q r t ∧ G t)) := by
  intro k
  induction k with
  | zero => exact ⟨fun _ _ _ _ hR => False.elim hR, fun _ _ _ _ hR => False.elim hR⟩
  | succ k ih =>
    refine ⟨?_, ?_⟩
    · intro t li lj g hR
      have hR : wbX11_same_0 (wpX11_same k) k t li lj Q := hR
      show wbX11_same_0 (wpX11_same k) k t li lj (fun r t => Q r t ∧ G t)
      unfold wbX11_same_0 at hR ⊢
      exact ⟨fun c1 => ih.2 _ _ _ g (hR.1 c1), fun c2 => ⟨fun c3 => wcX11_isIn ((hR.2 c2).1 c3) (fun y4_0 h4 => ⟨fun c5 => vtX4_shared_c4 hk g (h4.1 c5) (fun y6_0 y6_1 h6 g6 => ⟨h6, g6⟩), fun c7 => ⟨(h4.2 c7), g⟩⟩), fun c8 => ih.2 _ _ _ g ((hR.2 c2).2 c8)⟩⟩
    · intro t li lj g hR
      have hR : wbX11_same_1 (wpX11_same k) k t li lj Q := hR
      show wbX11_same_1 (wpX11_same k) k t li lj (fun r t => Q r t ∧ G t)
      unfold wbX11_same_1 at hR ⊢
      exact ⟨hR, g⟩
theorem vgX11_same {G : XT → Prop} {k : Nat} {t : XT} {a1 : Int32} {Q : Int32 → XT → Prop} (hk : kpA G) (g : G t) (hR : wqX11_same k t a1 Q) : wqX11_same k t a1 (fun r t => Q r t ∧ G t) := (vfX11_same hk Q k).1 t _ _ g hR
theorem vtX11_same {G : XT → Prop} {k : Nat} {t : XT} {a1 : Int32} {Q Q' : Int32 → XT → Prop} (hk : kpA G) (g : G t) (hR : wqX11_same k t a1 Q) (hQ : (∀ r t, Q r t → G t → Q' r t)) : wqX11_same k t a1 Q' := wmX11_same (Nat.le_refl k) (fun r t h => hQ r t h.1 h.2) (vgX11_same hk g hR)
set_option maxHeartbeats 4000000 in
set_option maxRecDepth 100000 in
theorem vfX9_hangingWith {G : XT → Prop} (hk : kpA G) (Q : Int64 → XT → Prop) : ∀ k : Nat, (∀ (t : XT) (li : Nat → Int32) (lj : Nat → Int64), G t → wpX9_hangingWith k 0 t li lj Q → wpX9_hangingWith k 0 t li lj (fun r t => Q r t ∧ G t)) ∧ (∀ (t : XT) (li : Nat → Int32) (lj : Nat → Int64), G t → wpX9_hangingWith k 1 t li lj Q → wpX9_hangingWith k 1 t li lj (fun r t => Q r t ∧ G t)) ∧ (∀ (t : XT) (li : Nat → Int32) (lj : Nat → Int64), G t → wpX9_hangingWith k 2 t li lj Q → wpX9_hangingWith k 2 t li lj (fun r t => Q r t ∧ G t)) := by
  intro k
  induction k with
  | zero => exact ⟨fun _ _ _ _ hR => False.elim hR, fun _ _ _ _ hR => False.elim hR, fun _ _ _ _ hR => False.elim hR⟩
  | succ k ih =>
    refine ⟨?_, ?_, ?_⟩
    · intro t li lj g hR
      have hR : wbX9_hangingWith_0 (wpX9_hangingWith k) k t li lj Q := hR
      show wbX9_hangingWith_0 (wpX9_hangingWith k) k t li lj (fun r t => Q r t ∧ G t)
      unfold wbX9_hangingWith_0 at hR ⊢
      exact wcX11_bit hR (fun y1_0 h1 => ih.2.1 _ _ _ g h1)
    · intro t li lj g hR
      have hR : wbX9_hangingWith_1 (wpX9_hangingWith k) k t li lj Q := hR
      show wbX9_hangingWith_1 (wpX9_hangingWith k) k t li lj (fun r t => Q r t ∧ G t)
      unfold wbX9_hangingWith_1 at hR ⊢
      exact ⟨fun c1 => ih.2.2 _ _ _ g (hR.1 c1), fun c2 => fun x3 e3 => ⟨fun c4 => ih.2.2 _ _ _ g (((hR.2 c2) x3 e3).1 c4), fun c5 => wcX11_lowest (((hR.2 c2) x3 e3).2 c5) (fun y6_0 h6 => ⟨h6.1, fun x7 e7 => ⟨(h6.2 x7 e7).1, fun x8 e8 => fun x9 e9 => fun x10 e10 => fun x11 e11 => fun x12 e12 => fun x13 e13 => fun x14 e14 => wcX11_bit ((((((((h6.2 x7 e7).2 x8 e8) x9 e9) x10 e10) x11 e11) x12 e12) x13 e13) x14 e14) (fun y15_0 h15 => fun x16 e16 => fun x17 e17 => fun x18 e18 => ih.2.1 _ _ _ g (((h15 x16 e16) x17 e17) x18 e18))⟩⟩)⟩⟩
    · intro t li lj g hR
      have hR : wbX9_hangingWith_2 (wpX9_hangingWith k) k t li lj Q := hR
      show wbX9_hangingWith_2 (wpX9_hangingWith k) k t li lj (fun r t => Q r t ∧ G t)
      unfold wbX9_hangingWith_2 at hR ⊢
      exact ⟨hR, g⟩
theorem vgX9_hangingWith {G : XT → Prop} {k : Nat} {t : XT} {a1 : Int32} {a2 : Int64} {Q : Int64 → XT → Prop} (hk : kpA G) (g : G t) (hR : wqX9_hangingWith k t a1 a2 Q) : wqX9_hangingWith k t a1 a2 (fun r t => Q r t ∧ G t) := (vfX9_hangingWith hk Q k).1 t _ _ g hR
theorem vtX9_hangingWith {G : XT → Prop} {k : Nat} {t : XT} {a1 : Int32} {a2 : Int64} {Q Q' : Int64 → XT → Prop} (hk : kpA G) (g : G t) (hR : wqX9_hangingWith k t a1 a2 Q) (hQ : (∀ r t, Q r t → G t → Q' r t)) : wqX9_hangingWith k t a1 a2 Q' := wmX9_hangingWith (Nat.le_refl k) (fun r t h => hQ r t h.1 h.2) (vgX9_hangingWith hk g hR)
set_option maxHeartbeats 4000000 in
set_option maxRecDepth 100000 in
theorem vfX9_partsOf {G : XT → Prop} (hk : kpA G) (Q : Int32 → XT → Prop) : ∀ k : Nat, (∀ (t : XT) (li : Nat → Int32) (lj : Nat → Int64), G t → wpX9_partsOf k 0 t li lj Q → wpX9_partsOf k 0 t li lj (fun r t => Q r t ∧ G t)) ∧ (∀ (t : XT) (li : Nat → Int32) (lj : Nat → Int64), G t → wpX9_partsOf k 1 t li lj Q → wpX9_partsOf k 1 t li lj (fun r t => Q r t ∧ G t)) ∧ (∀ (t : XT) (li : Nat → Int32) (lj : Nat → Int64), G t → wpX9_partsOf k 2 t li lj Q → wpX9_partsOf k 2 t li lj (fun r t => Q r t ∧ G t)) := by
  intro k
  induction k with
  | zero => exact ⟨fun _ _ _ _ hR => False.elim hR, fun _ _ _ _ hR => False.elim hR, fun _ _ _ _ hR => False.elim hR⟩
  | succ k ih =>
    refine ⟨?_, ?_, ?_⟩
    · intro t li lj g hR
      have hR : wbX9_partsOf_0 (wpX9_partsOf k) k t li lj Q := hR
      show wbX9_partsOf_0 (wpX9_partsOf k) k t li lj (fun r t => Q r t ∧ G t)
      unfold wbX9_partsOf_0 at hR ⊢
      exact ih.2.1 _ _ _ g hR
    · intro t li lj g hR
      have hR : wbX9_partsOf_1 (wpX9_partsOf k) k t li lj Q := hR
      show wbX9_partsOf_1 (wpX9_partsOf k) k t li lj (fun r t => Q r t ∧ G t)
      unfold wbX9_partsOf_1 at hR ⊢
      exact fun x1 e1 => ⟨fun c2 => ih.2.2 _ _ _ g ((hR x1 e1).1 c2), fun c3 => ⟨fun c4 => ih.2.2 _ _ _ g (((hR x1 e1).2 c3).1 c4), fun c5 => wcX11_lowest (((hR x1 e1).2 c3).2 c5) (fun y6_0 h6 => vtX9_hangingWith hk g h6 (fun y7_0 y7_1 h7 g7 => fun x8 e8 => fun x9 e9 => fun x10 e10 => ih.2.1 _ _ _ g7 (((h7 x8 e8) x9 e9) x10 e10)))⟩⟩
    · intro t li lj g hR
      have hR : wbX9_partsOf_2 (wpX9_partsOf k) k t li lj Q := hR
      show wbX9_partsOf_2 (wpX9_partsOf k) k t li lj (fun r t => Q r t ∧ G t)
      unfold wbX9_partsOf_2 at hR ⊢
      exact ⟨hR, g⟩
theorem vgX9_partsOf {G : XT → Prop} {k : Nat} {t : XT} {a1 : Int64} {Q : Int32 → XT → Prop} (hk : kpA G) (g : G t) (hR : wqX9_partsOf k t a1 Q) : wqX9_partsOf k t a1 (fun r t => Q r t ∧ G t) := (vfX9_partsOf hk Q k).1 t _ _ g hR
theorem vtX9_partsOf {G : XT → Prop} {k : Nat} {t : XT} {a1 : Int64} {Q Q' : Int32 → XT → Prop} (hk : kpA G) (g : G t) (hR : wqX9_partsOf k t a1 Q) (hQ : (∀ r t, Q r t → G t → Q' r t)) : wqX9_partsOf k t a1 Q' := wmX9_partsOf (Nat.le_refl k) (fun r t h => hQ r t h.1 h.2) (vgX9_partsOf hk g hR)
set_option maxHeartbeats 4000000 in
set_option maxRecDepth 100000 in
theorem vfX11_count {G : XT → Prop} (hk : kpA G) (Q : Int32 → XT → Prop) : ∀ k : Nat, (∀ (t : XT) (li : Nat → Int32) (lj : Nat → Int64), G t → wpX11_count k 0 t li lj Q → wpX11_count k 0 t li lj (fun r t => Q r t ∧ G t)) := by
  intro k
  induction k with
  | zero => exact fun _ _ _ _ hR => False.elim hR
  | succ k ih =>
    intro t li lj g hR
    have hR : wbX11_count_0 (wpX11_count k) k t li lj Q := hR
    show wbX11_count_0 (wpX11_count k) k t li lj (fun r t => Q r t ∧ G t)
    unfold wbX11_count_0 at hR ⊢
    exact ⟨fun c1 => ⟨(hR.1 c1), g⟩, fun c2 => ⟨(hR.2.1 c2), g⟩, fun c3 => wcJ13_bitCount_95d88 (hR.2.2.1 c3) (fun y4_0 h4 => ⟨h4, g⟩), fun c5 => vtX9_greatestDim hk g (hR.2.2.2.1 c5) (fun y6_0 y6_1 h6 g6 => ⟨h6, g6⟩), fun c7 => vtX6_howMany hk g (hR.2.2.2.2.1 c7) (fun y8_0 y8_1 h8 g8 => ⟨h8, g8⟩), fun c9 => vtX11_criticalOnes hk g (hR.2.2.2.2.2.1 c9) (fun y10_0 y10_1 h10 g10 => ⟨h10, g10⟩), fun c11 => vtX9_eulerOf hk g (hR.2.2.2.2.2.2.1 c11) (fun y12_0 y12_1 h12 g12 => ⟨h12, g12⟩), fun c13 => vtX9_partsOf hk g (hR.2.2.2.2.2.2.2.1 c13) (fun y14_0 y14_1 h14 g14 => ⟨h14, g14⟩), fun c15 => ⟨(hR.2.2.2.2.2.2.2.2.1 c15), g⟩, fun c16 => ⟨(hR.2.2.2.2.2.2.2.2.2.1 c16), g⟩, fun c17 => ⟨(hR.2.2.2.2.2.2.2.2.2.2 c17), g⟩⟩
theorem vgX11_count {G : XT → Prop} {k : Nat} {t : XT} {a1 : Int32} {Q : Int32 → XT → Prop} (hk : kpA G) (g : G t) (hR : wqX11_count k t a1 Q) : wqX11_count k t a1 (fun r t => Q r t ∧ G t) := (vfX11_count hk Q k) t _ _ g hR
theorem vtX11_count {G : XT → Prop} {k : Nat} {t : XT} {a1 : Int32} {Q Q' : Int32 → XT → Prop} (hk : kpA G) (g : G t) (hR : wqX11_count k t a1 Q) (hQ : (∀ r t, Q r t → G t → Q' r t)) : wqX11_count k t a1 Q' := wmX11_count (Nat.le_refl k) (fun r t h => hQ r t h.1 h.2) (vgX11_count hk g hR)
