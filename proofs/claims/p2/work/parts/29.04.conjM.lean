set_option maxHeartbeats 4000000 in
set_option maxRecDepth 100000 in
theorem wkX12_alternatingj (Q R : Int32 → XT → Prop) : ∀ k : Nat, (∀ (t : XT) (li : Nat → Int32) (lj : Nat → Int64), wpX12_alternating k 0 t li lj Q → wpX12_alternating k 0 t li lj R → wpX12_alternating k 0 t li lj (fun r t => Q r t ∧ R r t)) := by
  intro k
  induction k with
  | zero => exact fun _ _ _ hR _ => False.elim hR
  | succ k ih =>
    intro t li lj hQ hR
    have hQ : wbX12_alternating_0 (wpX12_alternating k) k t li lj Q := hQ
    have hR : wbX12_alternating_0 (wpX12_alternating k) k t li lj R := hR
    show wbX12_alternating_0 (wpX12_alternating k) k t li lj (fun r t => Q r t ∧ R r t)
    unfold wbX12_alternating_0 at hQ hR ⊢
    exact wiX12_dimOf hQ hR (fun y1_0 y1_1 h1 i1 => ⟨h1.1, fun x2 e2 => ⟨fun c3 => ⟨((h1.2 x2 e2).1 c3), ((i1.2 x2 e2).1 c3)⟩, fun c4 => ⟨((h1.2 x2 e2).2 c4), ((i1.2 x2 e2).2 c4)⟩⟩⟩)
theorem wjX12_alternating {k : Nat} {t : XT} {a1 : Int32} {Q R : Int32 → XT → Prop} (hQ : wqX12_alternating k t a1 Q) (hR : wqX12_alternating k t a1 R) : wqX12_alternating k t a1 (fun r t => Q r t ∧ R r t) := (wkX12_alternatingj Q R k) t _ _ hQ hR
theorem wiX12_alternating {k : Nat} {t : XT} {a1 : Int32} {Q R S : Int32 → XT → Prop} (hQ : wqX12_alternating k t a1 Q) (hR : wqX12_alternating k t a1 R) (f : ∀ r t, Q r t → R r t → S r t) : wqX12_alternating k t a1 S := wmX12_alternating (Nat.le_refl k) (fun r t h => f r t h.1 h.2) (wjX12_alternating hQ hR)
set_option maxHeartbeats 4000000 in
set_option maxRecDepth 100000 in
theorem wkX12_linkj (Q R : Int32 → XT → Prop) : ∀ k : Nat, (∀ (t : XT) (li : Nat → Int32) (lj : Nat → Int64), wpX12_link k 0 t li lj Q → wpX12_link k 0 t li lj R → wpX12_link k 0 t li lj (fun r t => Q r t ∧ R r t)) ∧ (∀ (t : XT) (li : Nat → Int32) (lj : Nat → Int64), wpX12_link k 1 t li lj Q → wpX12_link k 1 t li lj R → wpX12_link k 1 t li lj (fun r t => Q r t ∧ R r t)) ∧ (∀ (t : XT) (li : Nat → Int32) (lj : Nat → Int64), wpX12_link k 2 t li lj Q → wpX12_link k 2 t li lj R → wpX12_link k 2 t li lj (fun r t => Q r t ∧ R r t)) ∧ (∀ (t : XT) (li : Nat → Int32) (lj : Nat → Int64), wpX12_link k 3 t li lj Q → wpX12_link k 3 t li lj R → wpX12_link k 3 t li lj (fun r t => Q r t ∧ R r t)) ∧ (∀ (t : XT) (li : Nat → Int32) (lj : Nat → Int64), wpX12_link k 4 t li lj Q → wpX12_link k 4 t li lj R → wpX12_link k 4 t li lj (fun r t => Q r t ∧ R r t)) := by
  intro k
  induction k with
  | zero => exact ⟨fun _ _ _ hR _ => False.elim hR, fun _ _ _ hR _ => False.elim hR, fun _ _ _ hR _ => False.elim hR, fun _ _ _ hR _ => False.elim hR, fun _ _ _ hR _ => False.elim hR⟩
  | succ k ih =>
    refine ⟨?_, ?_, ?_, ?_, ?_⟩
    · intro t li lj hQ hR
      have hQ : wbX12_link_0 (wpX12_link k) k t li lj Q := hQ
      have hR : wbX12_link_0 (wpX12_link k) k t li lj R := hR
      show wbX12_link_0 (wpX12_link k) k t li lj (fun r t => Q r t ∧ R r t)
      unfold wbX12_link_0 at hQ hR ⊢
      exact wiX12_isThere hQ hR (fun y1_0 y1_1 h1 i1 => ⟨fun c2 => ih.2.1 _ _ _ (h1.1 c2) (i1.1 c2), fun c3 => wiX12_in (h1.2 c3) (i1.2 c3) (fun y4_0 h4 i4 => ⟨fun c5 => ih.2.2.1 _ _ _ (h4.1 c5) (i4.1 c5), fun c6 => ih.2.1 _ _ _ (h4.2 c6) (i4.2 c6)⟩)⟩)
    · intro t li lj hQ hR
      have hQ : wbX12_link_1 (wpX12_link k) k t li lj Q := hQ
      have hR : wbX12_link_1 (wpX12_link k) k t li lj R := hR
      show wbX12_link_1 (wpX12_link k) k t li lj (fun r t => Q r t ∧ R r t)
      unfold wbX12_link_1 at hQ hR ⊢
      exact ⟨hQ, hR⟩
    · intro t li lj hQ hR
      have hQ : wbX12_link_2 (wpX12_link k) k t li lj Q := hQ
      have hR : wbX12_link_2 (wpX12_link k) k t li lj R := hR
      show wbX12_link_2 (wpX12_link k) k t li lj (fun r t => Q r t ∧ R r t)
      unfold wbX12_link_2 at hQ hR ⊢
      exact ⟨fun c1 => ⟨(hQ.1 c1), (hR.1 c1)⟩, fun c2 => wiX12_isThere (hQ.2 c2) (hR.2 c2) (fun y3_0 y3_1 h3 i3 => ⟨fun c4 => ih.2.2.2.2 _ _ _ (h3.1 c4) (i3.1 c4), fun c5 => ⟨(h3.2 c5).1, fun x6 e6 => ⟨((h3.2 c5).2 x6 e6).1, fun x7 e7 => fun x8 e8 => ⟨fun c9 => ⟨(((((h3.2 c5).2 x6 e6).2 x7 e7) x8 e8).1 c9).1, fun x10 e10 => ⟨((((((h3.2 c5).2 x6 e6).2 x7 e7) x8 e8).1 c9).2 x10 e10).1, fun x11 e11 => fun x12 e12 => ⟨((((((((h3.2 c5).2 x6 e6).2 x7 e7) x8 e8).1 c9).2 x10 e10).2 x11 e11) x12 e12).1, fun x13 e13 => ⟨fun c14 => ih.2.2.2.2 _ _ _ ((((((((((h3.2 c5).2 x6 e6).2 x7 e7) x8 e8).1 c9).2 x10 e10).2 x11 e11) x12 e12).2 x13 e13).1 c14) ((((((((((i3.2 c5).2 x6 e6).2 x7 e7) x8 e8).1 c9).2 x10 e10).2 x11 e11) x12 e12).2 x13 e13).1 c14), fun c15 => wiX12_isThere ((((((((((h3.2 c5).2 x6 e6).2 x7 e7) x8 e8).1 c9).2 x10 e10).2 x11 e11) x12 e12).2 x13 e13).2 c15) ((((((((((i3.2 c5).2 x6 e6).2 x7 e7) x8 e8).1 c9).2 x10 e10).2 x11 e11) x12 e12).2 x13 e13).2 c15) (fun y16_0 y16_1 h16 i16 => ⟨fun c17 => ih.2.2.2.2 _ _ _ (h16.1 c17) (i16.1 c17), fun c18 => ⟨fun c19 => wiX12_alternating ((h16.2 c18).1 c19) ((i16.2 c18).1 c19) (fun y20_0 y20_1 h20 i20 => ih.2.2.2.1 _ _ _ h20 i20), fun c21 => ih.2.2.2.1 _ _ _ ((h16.2 c18).2 c21) ((i16.2 c18).2 c21)⟩⟩)⟩⟩⟩⟩, fun c22 => ih.2.2.2.2 _ _ _ (((((h3.2 c5).2 x6 e6).2 x7 e7) x8 e8).2 c22) (((((i3.2 c5).2 x6 e6).2 x7 e7) x8 e8).2 c22)⟩⟩⟩⟩)⟩
    · intro t li lj hQ hR
      have hQ : wbX12_link_3 (wpX12_link k) k t li lj Q := hQ
      have hR : wbX12_link_3 (wpX12_link k) k t li lj R := hR
      show wbX12_link_3 (wpX12_link k) k t li lj (fun r t => Q r t ∧ R r t)
      unfold wbX12_link_3 at hQ hR ⊢
      exact fun x1 e1 => ih.2.2.2.2 _ _ _ (hQ x1 e1) (hR x1 e1)
    · intro t li lj hQ hR
      have hQ : wbX12_link_4 (wpX12_link k) k t li lj Q := hQ
      have hR : wbX12_link_4 (wpX12_link k) k t li lj R := hR
      show wbX12_link_4 (wpX12_link k) k t li lj (fun r t => Q r t ∧ R r t)
      unfold wbX12_link_4 at hQ hR ⊢
      exact fun x1 e1 => ih.2.2.1 _ _ _ (hQ x1 e1) (hR x1 e1)
theorem wjX12_link {k : Nat} {t : XT} {a1 : Int32} {a2 : Int32} {Q R : Int32 → XT → Prop} (hQ : wqX12_link k t a1 a2 Q) (hR : wqX12_link k t a1 a2 R) : wqX12_link k t a1 a2 (fun r t => Q r t ∧ R r t) := (wkX12_linkj Q R k).1 t _ _ hQ hR
theorem wiX12_link {k : Nat} {t : XT} {a1 : Int32} {a2 : Int32} {Q R S : Int32 → XT → Prop} (hQ : wqX12_link k t a1 a2 Q) (hR : wqX12_link k t a1 a2 R) (f : ∀ r t, Q r t → R r t → S r t) : wqX12_link k t a1 a2 S := wmX12_link (Nat.le_refl k) (fun r t h => f r t h.1 h.2) (wjX12_link hQ hR)
set_option maxHeartbeats 4000000 in
set_option maxRecDepth 100000 in
theorem wkX12_roomj (Q R : Int32 → XT → Prop) : ∀ k : Nat, (∀ (t : XT) (li : Nat → Int32) (lj : Nat → Int64), wpX12_room k 0 t li lj Q → wpX12_room k 0 t li lj R → wpX12_room k 0 t li lj (fun r t => Q r t ∧ R r t)) ∧ (∀ (t : XT) (li : Nat → Int32) (lj : Nat → Int64), wpX12_room k 1 t li lj Q → wpX12_room k 1 t li lj R → wpX12_room k 1 t li lj (fun r t => Q r t ∧ R r t)) ∧ (∀ (t : XT) (li : Nat → Int32) (lj : Nat → Int64), wpX12_room k 2 t li lj Q → wpX12_room k 2 t li lj R → wpX12_room k 2 t li lj (fun r t => Q r t ∧ R r t)) ∧ (∀ (t : XT) (li : Nat → Int32) (lj : Nat → Int64), wpX12_room k 3 t li lj Q → wpX12_room k 3 t li lj R → wpX12_room k 3 t li lj (fun r t => Q r t ∧ R r t)) := by
  intro k
  induction k with
  | zero => exact ⟨fun _ _ _ hR _ => False.elim hR, fun _ _ _ hR _ => False.elim hR, fun _ _ _ hR _ => False.elim hR, fun _ _ _ hR _ => False.elim hR⟩
  | succ k ih =>
    refine ⟨?_, ?_, ?_, ?_⟩
    · intro t li lj hQ hR
      have hQ : wbX12_room_0 (wpX12_room k) k t li lj Q := hQ
      have hR : wbX12_room_0 (wpX12_room k) k t li lj R := hR
      show wbX12_room_0 (wpX12_room k) k t li lj (fun r t => Q r t ∧ R r t)
      unfold wbX12_room_0 at hQ hR ⊢
      exact wiX12_in hQ hR (fun y1_0 h1 i1 => ⟨fun c2 => ih.2.1 _ _ _ (h1.1 c2) (i1.1 c2), fun c3 => ⟨(h1.2 c3), (i1.2 c3)⟩⟩)
    · intro t li lj hQ hR
      have hQ : wbX12_room_1 (wpX12_room k) k t li lj Q := hQ
      have hR : wbX12_room_1 (wpX12_room k) k t li lj R := hR
      show wbX12_room_1 (wpX12_room k) k t li lj (fun r t => Q r t ∧ R r t)
      unfold wbX12_room_1 at hQ hR ⊢
      exact ⟨fun c1 => ⟨(hQ.1 c1), (hR.1 c1)⟩, fun c2 => ih.2.2.1 _ _ _ (hQ.2 c2) (hR.2 c2)⟩
    · intro t li lj hQ hR
      have hQ : wbX12_room_2 (wpX12_room k) k t li lj Q := hQ
      have hR : wbX12_room_2 (wpX12_room k) k t li lj R := hR
      show wbX12_room_2 (wpX12_room k) k t li lj (fun r t => Q r t ∧ R r t)
      unfold wbX12_room_2 at hQ hR ⊢
      exact ⟨fun c1 => fun x2 e2 => ih.2.1 _ _ _ ((hQ.1 c1) x2 e2) ((hR.1 c1) x2 e2), fun c3 => wiX12_dimOf (hQ.2 c3) (hR.2 c3) (fun y4_0 y4_1 h4 i4 => ⟨fun c5 => ih.2.2.2 _ _ _ (h4.1 c5) (i4.1 c5), fun c6 => wiX12_isFaceThere (h4.2 c6) (i4.2 c6) (fun y7_0 y7_1 h7 i7 => ⟨fun c8 => ih.2.2.2 _ _ _ (h7.1 c8) (i7.1 c8), fun c9 => wiX12_isFree (h7.2 c9) (i7.2 c9) (fun y10_0 y10_1 h10 i10 => ⟨fun c11 => ih.2.2.2 _ _ _ (h10.1 c11) (i10.1 c11), fun c12 => wiX12_couples (h10.2 c12) (i10.2 c12) (fun y13_0 y13_1 h13 i13 => ⟨fun c14 => ih.2.2.2 _ _ _ (h13.1 c14) (i13.1 c14), fun c15 => wiX12_frees (h13.2 c15) (i13.2 c15) (fun y16_0 h16 i16 => fun x17 e17 => ih.2.2.2 _ _ _ (h16 x17 e17) (i16 x17 e17))⟩)⟩)⟩)⟩)⟩
    · intro t li lj hQ hR
      have hQ : wbX12_room_3 (wpX12_room k) k t li lj Q := hQ
      have hR : wbX12_room_3 (wpX12_room k) k t li lj R := hR
      show wbX12_room_3 (wpX12_room k) k t li lj (fun r t => Q r t ∧ R r t)
      unfold wbX12_room_3 at hQ hR ⊢
      exact fun x1 e1 => ih.2.2.1 _ _ _ (hQ x1 e1) (hR x1 e1)
theorem wjX12_room {k : Nat} {t : XT} {a1 : Int32} {Q R : Int32 → XT → Prop} (hQ : wqX12_room k t a1 Q) (hR : wqX12_room k t a1 R) : wqX12_room k t a1 (fun r t => Q r t ∧ R r t) := (wkX12_roomj Q R k).1 t _ _ hQ hR
theorem wiX12_room {k : Nat} {t : XT} {a1 : Int32} {Q R S : Int32 → XT → Prop} (hQ : wqX12_room k t a1 Q) (hR : wqX12_room k t a1 R) (f : ∀ r t, Q r t → R r t → S r t) : wqX12_room k t a1 S := wmX12_room (Nat.le_refl k) (fun r t h => f r t h.1 h.2) (wjX12_room hQ hR)
set_option maxHeartbeats 4000000 in
set_option maxRecDepth 100000 in
theorem wkX12_drawsj (Q R : Int32 → XT → Prop) : ∀ k : Nat, (∀ (t : XT) (li : Nat → Int32) (lj : Nat → Int64), wpX12_draws k 0 t li lj Q → wpX12_draws k 0 t li lj R → wpX12_draws k 0 t li lj (fun r t => Q r t ∧ R r t)) := by
  intro k
  induction k with
  | zero => exact fun _ _ _ hR _ => False.elim hR
  | succ k ih =>
    intro t li lj hQ hR
    have hQ : wbX12_draws_0 (wpX12_draws k) k t li lj Q := hQ
    have hR : wbX12_draws_0 (wpX12_draws k) k t li lj R := hR
    show wbX12_draws_0 (wpX12_draws k) k t li lj (fun r t => Q r t ∧ R r t)
    unfold wbX12_draws_0 at hQ hR ⊢
    exact ⟨fun c1 => fun x2 e2 => ⟨((hQ.1 c1) x2 e2), ((hR.1 c1) x2 e2)⟩, fun c3 => ⟨(hQ.2 c3), (hR.2 c3)⟩⟩
theorem wjX12_draws {k : Nat} {t : XT} {a1 : Int32} {Q R : Int32 → XT → Prop} (hQ : wqX12_draws k t a1 Q) (hR : wqX12_draws k t a1 R) : wqX12_draws k t a1 (fun r t => Q r t ∧ R r t) := (wkX12_drawsj Q R k) t _ _ hQ hR
theorem wiX12_draws {k : Nat} {t : XT} {a1 : Int32} {Q R S : Int32 → XT → Prop} (hQ : wqX12_draws k t a1 Q) (hR : wqX12_draws k t a1 R) (f : ∀ r t, Q r t → R r t → S r t) : wqX12_draws k t a1 S := wmX12_draws (Nat.le_refl k) (fun r t h => f r t h.1 h.2) (wjX12_draws hQ hR)
set_option maxHeartbeats 4000000 in
set_option maxRecDepth 100000 in
theorem wkX12_openDimj (Q R : Int32 → XT → Prop) : ∀ k : Nat, (∀ (t : XT) (li : Nat → Int32) (lj : Nat → Int64), wpX12_openDim k 0 t li lj Q → wpX12_openDim k 0 t li lj R → wpX12_openDim k 0 t li lj (fun r t => Q r t ∧ R r t)) ∧ (∀ (t : XT) (li : Nat → Int32) (lj : Nat → Int64), wpX12_openDim k 1 t li lj Q → wpX12_openDim k 1 t li lj R → wpX12_openDim k 1 t li lj (fun r t => Q r t ∧ R r t)) ∧ (∀ (t : XT) (li : Nat → Int32) (lj : Nat → Int64), wpX12_openDim k 2 t li lj Q → wpX12_openDim k 2 t li lj R → wpX12_openDim k 2 t li lj (fun r t => Q r t ∧ R r t)) := by
  intro k
  induction k with
  | zero => exact ⟨fun _ _ _ hR _ => False.elim hR, fun _ _ _ hR _ => False.elim hR, fun _ _ _ hR _ => False.elim hR⟩
  | succ k ih =>
    refine ⟨?_, ?_, ?_⟩
    · intro t li lj hQ hR
      have hQ : wbX12_openDim_0 (wpX12_openDim k) k t li lj Q := hQ
      have hR : wbX12_openDim_0 (wpX12_openDim k) k t li lj R := hR
      show wbX12_openDim_0 (wpX12_openDim k) k t li lj (fun r t => Q r t ∧ R r t)
      unfold wbX12_openDim_0 at hQ hR ⊢
      exact ih.2.1 _ _ _ hQ hR
    · intro t li lj hQ hR
      have hQ : wbX12_openDim_1 (wpX12_openDim k) k t li lj Q := hQ
      have hR : wbX12_openDim_1 (wpX12_openDim k) k t li lj R := hR
      show wbX12_openDim_1 (wpX12_openDim k) k t li lj (fun r t => Q r t ∧ R r t)
      unfold wbX12_openDim_1 at hQ hR ⊢
      exact ⟨fun c1 => ⟨(hQ.1 c1), (hR.1 c1)⟩, fun c2 => ⟨(hQ.2 c2).1, fun x3 e3 => ⟨fun c4 => ih.2.2 _ _ _ (((hQ.2 c2).2 x3 e3).1 c4) (((hR.2 c2).2 x3 e3).1 c4), fun c5 => wiX12_dimOf (((hQ.2 c2).2 x3 e3).2 c5) (((hR.2 c2).2 x3 e3).2 c5) (fun y6_0 y6_1 h6 i6 => fun x7 e7 => ih.2.2 _ _ _ (h6 x7 e7) (i6 x7 e7))⟩⟩⟩
    · intro t li lj hQ hR
      have hQ : wbX12_openDim_2 (wpX12_openDim k) k t li lj Q := hQ
      have hR : wbX12_openDim_2 (wpX12_openDim k) k t li lj R := hR
      show wbX12_openDim_2 (wpX12_openDim k) k t li lj (fun r t => Q r t ∧ R r t)
      unfold wbX12_openDim_2 at hQ hR ⊢
      exact fun x1 e1 => ih.2.1 _ _ _ (hQ x1 e1) (hR x1 e1)
theorem wjX12_openDim {k : Nat} {t : XT}  {Q R : Int32 → XT → Prop} (hQ : wqX12_openDim k t  Q) (hR : wqX12_openDim k t  R) : wqX12_openDim k t  (fun r t => Q r t ∧ R r t) := (wkX12_openDimj Q R k).1 t _ _ hQ hR
theorem wiX12_openDim {k : Nat} {t : XT}  {Q R S : Int32 → XT → Prop} (hQ : wqX12_openDim k t  Q) (hR : wqX12_openDim k t  R) (f : ∀ r t, Q r t → R r t → S r t) : wqX12_openDim k t  S := wmX12_openDim (Nat.le_refl k) (fun r t h => f r t h.1 h.2) (wjX12_openDim hQ hR)
set_option maxHeartbeats 4000000 in
set_option maxRecDepth 100000 in
theorem wkX12_laysChoicesj (Q R : Int32 → XT → Prop) : ∀ k : Nat, (∀ (t : XT) (li : Nat → Int32) (lj : Nat → Int64), wpX12_laysChoices k 0 t li lj Q → wpX12_laysChoices k 0 t li lj R → wpX12_laysChoices k 0 t li lj (fun r t => Q r t ∧ R r t)) ∧ (∀ (t : XT) (li : Nat → Int32) (lj : Nat → Int64), wpX12_laysChoices k 1 t li lj Q → wpX12_laysChoices k 1 t li lj R → wpX12_laysChoices k 1 t li lj (fun r t => Q r t ∧ R r t)) ∧ (∀ (t : XT) (li : Nat → Int32) (lj : Nat → Int64), wpX12_laysChoices k 2 t li lj Q → wpX12_laysChoices k 2 t li lj R → wpX12_laysChoices k 2 t li lj (fun r t => Q r t ∧ R r t)) ∧ (∀ (t : XT) (li : Nat → Int32) (lj : Nat → Int64), wpX12_laysChoices k 3 t li lj Q → wpX12_laysChoices k 3 t li lj R → wpX12_laysChoices k 3 t li lj (fun r t => Q r t ∧ R r t)) := by
  intro k
  induction k with
  | zero => exact ⟨fun _ _ _ hR _ => False.elim hR, fun _ _ _ hR _ => False.elim hR, fun _ _ _ hR _ => False.elim hR, fun _ _ _ hR _ => False.elim hR⟩
  | succ k ih =>
    refine ⟨?_, ?_, ?_, ?_⟩
    · intro t li lj hQ hR
      have hQ : wbX12_laysChoices_0 (wpX12_laysChoices k) k t li lj Q := hQ
      have hR : wbX12_laysChoices_0 (wpX12_laysChoices k) k t li lj R := hR
      show wbX12_laysChoices_0 (wpX12_laysChoices k) k t li lj (fun r t => Q r t ∧ R r t)
      unfold wbX12_laysChoices_0 at hQ hR ⊢
      exact ih.2.1 _ _ _ hQ hR
    · intro t li lj hQ hR
      have hQ : wbX12_laysChoices_1 (wpX12_laysChoices k) k t li lj Q := hQ
      have hR : wbX12_laysChoices_1 (wpX12_laysChoices k) k t li lj R := hR
      show wbX12_laysChoices_1 (wpX12_laysChoices k) k t li lj (fun r t => Q r t ∧ R r t)
      unfold wbX12_laysChoices_1 at hQ hR ⊢
      exact ⟨fun c1 => ⟨(hQ.1 c1), (hR.1 c1)⟩, fun c2 => ⟨(hQ.2 c2).1, fun x3 e3 => ⟨fun c4 => ih.2.2.2 _ _ _ (((hQ.2 c2).2 x3 e3).1 c4) (((hR.2 c2).2 x3 e3).1 c4), fun c5 => ⟨fun c6 => wiX12_dimOf ((((hQ.2 c2).2 x3 e3).2 c5).1 c6) ((((hR.2 c2).2 x3 e3).2 c5).1 c6) (fun y7_0 y7_1 h7 i7 => ⟨fun c8 => ih.2.2.2 _ _ _ (h7.1 c8) (i7.1 c8), fun c9 => ih.2.2.1 _ _ _ (h7.2 c9) (i7.2 c9)⟩), fun c10 => wiX12_onlyOver ((((hQ.2 c2).2 x3 e3).2 c5).2 c10) ((((hR.2 c2).2 x3 e3).2 c5).2 c10) (fun y11_0 y11_1 h11 i11 => ⟨fun c12 => ih.2.2.2 _ _ _ (h11.1 c12) (i11.1 c12), fun c13 => ih.2.2.1 _ _ _ (h11.2 c13) (i11.2 c13)⟩)⟩⟩⟩⟩
    · intro t li lj hQ hR
      have hQ : wbX12_laysChoices_2 (wpX12_laysChoices k) k t li lj Q := hQ
      have hR : wbX12_laysChoices_2 (wpX12_laysChoices k) k t li lj R := hR
      show wbX12_laysChoices_2 (wpX12_laysChoices k) k t li lj (fun r t => Q r t ∧ R r t)
      unfold wbX12_laysChoices_2 at hQ hR ⊢
      exact ⟨hQ.1, fun x1 e1 => fun x2 e2 => ih.2.2.2 _ _ _ ((hQ.2 x1 e1) x2 e2) ((hR.2 x1 e1) x2 e2)⟩
    · intro t li lj hQ hR
      have hQ : wbX12_laysChoices_3 (wpX12_laysChoices k) k t li lj Q := hQ
      have hR : wbX12_laysChoices_3 (wpX12_laysChoices k) k t li lj R := hR
      show wbX12_laysChoices_3 (wpX12_laysChoices k) k t li lj (fun r t => Q r t ∧ R r t)
      unfold wbX12_laysChoices_3 at hQ hR ⊢
      exact fun x1 e1 => ih.2.1 _ _ _ (hQ x1 e1) (hR x1 e1)
theorem wjX12_laysChoices {k : Nat} {t : XT} {a1 : Int32} {a2 : Int32} {Q R : Int32 → XT → Prop} (hQ : wqX12_laysChoices k t a1 a2 Q) (hR : wqX12_laysChoices k t a1 a2 R) : wqX12_laysChoices k t a1 a2 (fun r t => Q r t ∧ R r t) := (wkX12_laysChoicesj Q R k).1 t _ _ hQ hR
theorem wiX12_laysChoices {k : Nat} {t : XT} {a1 : Int32} {a2 : Int32} {Q R S : Int32 → XT → Prop} (hQ : wqX12_laysChoices k t a1 a2 Q) (hR : wqX12_laysChoices k t a1 a2 R) (f : ∀ r t, Q r t → R r t → S r t) : wqX12_laysChoices k t a1 a2 S := wmX12_laysChoices (Nat.le_refl k) (fun r t h => f r t h.1 h.2) (wjX12_laysChoices hQ hR)
set_option maxHeartbeats 4000000 in
set_option maxRecDepth 100000 in
theorem wkX12_drawnOfj (Q R : Int32 → XT → Prop) : ∀ k : Nat, (∀ (t : XT) (li : Nat → Int32) (lj : Nat → Int64), wpX12_drawnOf k 0 t li lj Q → wpX12_drawnOf k 0 t li lj R → wpX12_drawnOf k 0 t li lj (fun r t => Q r t ∧ R r t)) := by
  intro k
  induction k with
  | zero => exact fun _ _ _ hR _ => False.elim hR
  | succ k ih =>
    intro t li lj hQ hR
    have hQ : wbX12_drawnOf_0 (wpX12_drawnOf k) k t li lj Q := hQ
    have hR : wbX12_drawnOf_0 (wpX12_drawnOf k) k t li lj R := hR
    show wbX12_drawnOf_0 (wpX12_drawnOf k) k t li lj (fun r t => Q r t ∧ R r t)
    unfold wbX12_drawnOf_0 at hQ hR ⊢
    exact fun x1 e1 => fun x2 e2 => fun x3 e3 => ⟨(((hQ x1 e1) x2 e2) x3 e3).1, fun x4 e4 => fun x5 e5 => fun x6 e6 => ⟨((((((hQ x1 e1) x2 e2) x3 e3).2 x4 e4) x5 e5) x6 e6).1, fun x7 e7 => ⟨(((((((hQ x1 e1) x2 e2) x3 e3).2 x4 e4) x5 e5) x6 e6).2 x7 e7).1, fun x8 e8 => ⟨((((((((hQ x1 e1) x2 e2) x3 e3).2 x4 e4) x5 e5) x6 e6).2 x7 e7).2 x8 e8), ((((((((hR x1 e1) x2 e2) x3 e3).2 x4 e4) x5 e5) x6 e6).2 x7 e7).2 x8 e8)⟩⟩⟩⟩
theorem wjX12_drawnOf {k : Nat} {t : XT} {a1 : Int32} {Q R : Int32 → XT → Prop} (hQ : wqX12_drawnOf k t a1 Q) (hR : wqX12_drawnOf k t a1 R) : wqX12_drawnOf k t a1 (fun r t => Q r t ∧ R r t) := (wkX12_drawnOfj Q R k) t _ _ hQ hR
theorem wiX12_drawnOf {k : Nat} {t : XT} {a1 : Int32} {Q R S : Int32 → XT → Prop} (hQ : wqX12_drawnOf k t a1 Q) (hR : wqX12_drawnOf k t a1 R) (f : ∀ r t, Q r t → R r t → S r t) : wqX12_drawnOf k t a1 S := wmX12_drawnOf (Nat.le_refl k) (fun r t h => f r t h.1 h.2) (wjX12_drawnOf hQ hR)
set_option maxHeartbeats 4000000 in
set_option maxRecDepth 100000 in
theorem wkX12_drawnOncej (Q R : Int32 → XT → Prop) : ∀ k : Nat, (∀ (t : XT) (li : Nat → Int32) (lj : Nat → Int64), wpX12_drawnOnce k 0 t li lj Q → wpX12_drawnOnce k 0 t li lj R → wpX12_drawnOnce k 0 t li lj (fun r t => Q r t ∧ R r t)) ∧ (∀ (t : XT) (li : Nat → Int32) (lj : Nat → Int64), wpX12_drawnOnce k 1 t li lj Q → wpX12_drawnOnce k 1 t li lj R → wpX12_drawnOnce k 1 t li lj (fun r t => Q r t ∧ R r t)) ∧ (∀ (t : XT) (li : Nat → Int32) (lj : Nat → Int64), wpX12_drawnOnce k 2 t li lj Q → wpX12_drawnOnce k 2 t li lj R → wpX12_drawnOnce k 2 t li lj (fun r t => Q r t ∧ R r t)) := by
  intro k
  induction k with
  | zero => exact ⟨fun _ _ _ hR _ => False.elim hR, fun _ _ _ hR _ => False.elim hR, fun _ _ _ hR _ => False.elim hR⟩
  | succ k ih =>
    refine ⟨?_, ?_, ?_⟩
    · intro t li lj hQ hR
      have hQ : wbX12_drawnOnce_0 (wpX12_drawnOnce k) k t li lj Q := hQ
      have hR : wbX12_drawnOnce_0 (wpX12_drawnOnce k) k t li lj R := hR
      show wbX12_drawnOnce_0 (wpX12_drawnOnce k) k t li lj (fun r t => Q r t ∧ R r t)
      unfold wbX12_drawnOnce_0 at hQ hR ⊢
      exact wiX12_opensAll hQ hR (fun y1_0 h1 i1 => wiX12_openDim h1 i1 (fun y2_0 y2_1 h2 i2 => ih.2.1 _ _ _ h2 i2))
    · intro t li lj hQ hR
      have hQ : wbX12_drawnOnce_1 (wpX12_drawnOnce k) k t li lj Q := hQ
      have hR : wbX12_drawnOnce_1 (wpX12_drawnOnce k) k t li lj R := hR
      show wbX12_drawnOnce_1 (wpX12_drawnOnce k) k t li lj (fun r t => Q r t ∧ R r t)
      unfold wbX12_drawnOnce_1 at hQ hR ⊢
      exact ⟨fun c1 => ⟨(hQ.1 c1), (hR.1 c1)⟩, fun c2 => wiX12_laysChoices (hQ.2 c2) (hR.2 c2) (fun y3_0 y3_1 h3 i3 => ⟨fun c4 => wiX12_laysChoices (h3.1 c4) (i3.1 c4) (fun y5_0 y5_1 h5 i5 => wiX12_drawnOf h5 i5 (fun y6_0 y6_1 h6 i6 => ⟨h6.1, fun x7 e7 => ⟨(h6.2 x7 e7).1, fun x8 e8 => fun x9 e9 => ih.2.2 _ _ _ (((h6.2 x7 e7).2 x8 e8) x9 e9) (((i6.2 x7 e7).2 x8 e8) x9 e9)⟩⟩)), fun c10 => wiX12_drawnOf (h3.2 c10) (i3.2 c10) (fun y11_0 y11_1 h11 i11 => ⟨h11.1, fun x12 e12 => wiX12_onlyOver (h11.2 x12 e12) (i11.2 x12 e12) (fun y13_0 y13_1 h13 i13 => wiX12_closes h13 i13 (fun y14_0 h14 i14 => ih.2.2 _ _ _ h14 i14))⟩)⟩)⟩
    · intro t li lj hQ hR
      have hQ : wbX12_drawnOnce_2 (wpX12_drawnOnce k) k t li lj Q := hQ
      have hR : wbX12_drawnOnce_2 (wpX12_drawnOnce k) k t li lj R := hR
      show wbX12_drawnOnce_2 (wpX12_drawnOnce k) k t li lj (fun r t => Q r t ∧ R r t)
      unfold wbX12_drawnOnce_2 at hQ hR ⊢
      exact wiX12_openDim hQ hR (fun y1_0 y1_1 h1 i1 => ih.2.1 _ _ _ h1 i1)
theorem wjX12_drawnOnce {k : Nat} {t : XT}  {Q R : Int32 → XT → Prop} (hQ : wqX12_drawnOnce k t  Q) (hR : wqX12_drawnOnce k t  R) : wqX12_drawnOnce k t  (fun r t => Q r t ∧ R r t) := (wkX12_drawnOncej Q R k).1 t _ _ hQ hR
theorem wiX12_drawnOnce {k : Nat} {t : XT}  {Q R S : Int32 → XT → Prop} (hQ : wqX12_drawnOnce k t  Q) (hR : wqX12_drawnOnce k t  R) (f : ∀ r t, Q r t → R r t → S r t) : wqX12_drawnOnce k t  S := wmX12_drawnOnce (Nat.le_refl k) (fun r t h => f r t h.1 h.2) (wjX12_drawnOnce hQ hR)
set_option maxHeartbeats 4000000 in
set_option maxRecDepth 100000 in
theorem wkX12_drawnj (Q R : Int32 → XT → Prop) : ∀ k : Nat, (∀ (t : XT) (li : Nat → Int32) (lj : Nat → Int64), wpX12_drawn k 0 t li lj Q → wpX12_drawn k 0 t li lj R → wpX12_drawn k 0 t li lj (fun r t => Q r t ∧ R r t)) ∧ (∀ (t : XT) (li : Nat → Int32) (lj : Nat → Int64), wpX12_drawn k 1 t li lj Q → wpX12_drawn k 1 t li lj R → wpX12_drawn k 1 t li lj (fun r t => Q r t ∧ R r t)) ∧ (∀ (t : XT) (li : Nat → Int32) (lj : Nat → Int64), wpX12_drawn k 2 t li lj Q → wpX12_drawn k 2 t li lj R → wpX12_drawn k 2 t li lj (fun r t => Q r t ∧ R r t)) ∧ (∀ (t : XT) (li : Nat → Int32) (lj : Nat → Int64), wpX12_drawn k 3 t li lj Q → wpX12_drawn k 3 t li lj R → wpX12_drawn k 3 t li lj (fun r t => Q r t ∧ R r t)) ∧ (∀ (t : XT) (li : Nat → Int32) (lj : Nat → Int64), wpX12_drawn k 4 t li lj Q → wpX12_drawn k 4 t li lj R → wpX12_drawn k 4 t li lj (fun r t => Q r t ∧ R r t)) ∧ (∀ (t : XT) (li : Nat → Int32) (lj : Nat → Int64), wpX12_drawn k 5 t li lj Q → wpX12_drawn k 5 t li lj R → wpX12_drawn k 5 t li lj (fun r t => Q r t ∧ R r t)) := by
  intro k
  induction k with
  | zero => exact ⟨fun _ _ _ hR _ => False.elim hR, fun _ _ _ hR _ => False.elim hR, fun _ _ _ hR _ => False.elim hR, fun _ _ _ hR _ => False.elim hR, fun _ _ _ hR _ => False.elim hR, fun _ _ _ hR _ => False.elim hR⟩
  | succ k ih =>
    refine ⟨?_, ?_, ?_, ?_, ?_, ?_⟩
    · intro t li lj hQ hR
      have hQ : wbX12_drawn_0 (wpX12_drawn k) k t li lj Q := hQ
      have hR : wbX12_drawn_0 (wpX12_drawn k) k t li lj R := hR
      show wbX12_drawn_0 (wpX12_drawn k) k t li lj (fun r t => Q r t ∧ R r t)
      unfold wbX12_drawn_0 at hQ hR ⊢
      exact ⟨fun c1 => ih.2.1 _ _ _ (hQ.1 c1) (hR.1 c1), fun c2 => wiX12_in (hQ.2 c2) (hR.2 c2) (fun y3_0 h3 i3 => ⟨fun c4 => ih.2.1 _ _ _ (h3.1 c4) (i3.1 c4), fun c5 => wiX12_in (h3.2 c5) (i3.2 c5) (fun y6_0 h6 i6 => ⟨fun c7 => ih.2.2.1 _ _ _ (h6.1 c7) (i6.1 c7), fun c8 => ih.2.1 _ _ _ (h6.2 c8) (i6.2 c8)⟩)⟩)⟩
    · intro t li lj hQ hR
      have hQ : wbX12_drawn_1 (wpX12_drawn k) k t li lj Q := hQ
      have hR : wbX12_drawn_1 (wpX12_drawn k) k t li lj R := hR
      show wbX12_drawn_1 (wpX12_drawn k) k t li lj (fun r t => Q r t ∧ R r t)
      unfold wbX12_drawn_1 at hQ hR ⊢
      exact ⟨hQ, hR⟩
    · intro t li lj hQ hR
      have hQ : wbX12_drawn_2 (wpX12_drawn k) k t li lj Q := hQ
      have hR : wbX12_drawn_2 (wpX12_drawn k) k t li lj R := hR
      show wbX12_drawn_2 (wpX12_drawn k) k t li lj (fun r t => Q r t ∧ R r t)
      unfold wbX12_drawn_2 at hQ hR ⊢
      exact ⟨fun c1 => ih.2.2.2.1 _ _ _ (hQ.1 c1) (hR.1 c1), fun c2 => ⟨(hQ.2 c2).1, fun x3 e3 => ⟨((hQ.2 c2).2 x3 e3).1, fun x4 e4 => fun x5 e5 => ih.2.2.1 _ _ _ ((((hQ.2 c2).2 x3 e3).2 x4 e4) x5 e5) ((((hR.2 c2).2 x3 e3).2 x4 e4) x5 e5)⟩⟩⟩
    · intro t li lj hQ hR
      have hQ : wbX12_drawn_3 (wpX12_drawn k) k t li lj Q := hQ
      have hR : wbX12_drawn_3 (wpX12_drawn k) k t li lj R := hR
      show wbX12_drawn_3 (wpX12_drawn k) k t li lj (fun r t => Q r t ∧ R r t)
      unfold wbX12_drawn_3 at hQ hR ⊢
      exact ⟨fun c1 => fun x2 e2 => ih.2.2.2.2.2 _ _ _ ((hQ.1 c1) x2 e2) ((hR.1 c1) x2 e2), fun c3 => wiX12_drawnOnce (hQ.2 c3) (hR.2 c3) (fun y4_0 y4_1 h4 i4 => ⟨fun c5 => ⟨fun c6 => ih.2.2.2.2.1 _ _ _ ((h4.1 c5).1 c6) ((i4.1 c5).1 c6), fun c7 => fun x8 e8 => ih.2.2.2.2.1 _ _ _ (((h4.1 c5).2 c7) x8 e8) (((i4.1 c5).2 c7) x8 e8)⟩, fun c9 => ih.2.2.2.2.1 _ _ _ (h4.2 c9) (i4.2 c9)⟩)⟩
    · intro t li lj hQ hR
      have hQ : wbX12_drawn_4 (wpX12_drawn k) k t li lj Q := hQ
      have hR : wbX12_drawn_4 (wpX12_drawn k) k t li lj R := hR
      show wbX12_drawn_4 (wpX12_drawn k) k t li lj (fun r t => Q r t ∧ R r t)
      unfold wbX12_drawn_4 at hQ hR ⊢
      exact fun x1 e1 => fun x2 e2 => fun x3 e3 => ih.2.2.2.1 _ _ _ (((hQ x1 e1) x2 e2) x3 e3) (((hR x1 e1) x2 e2) x3 e3)
    · intro t li lj hQ hR
      have hQ : wbX12_drawn_5 (wpX12_drawn k) k t li lj Q := hQ
      have hR : wbX12_drawn_5 (wpX12_drawn k) k t li lj R := hR
      show wbX12_drawn_5 (wpX12_drawn k) k t li lj (fun r t => Q r t ∧ R r t)
      unfold wbX12_drawn_5 at hQ hR ⊢
      exact ⟨fun c1 => ⟨fun c2 => ⟨fun c3 => ⟨(((hQ.1 c1).1 c2).1 c3), (((hR.1 c1).1 c2).1 c3)⟩, fun c4 => ⟨(((hQ.1 c1).1 c2).2 c4), (((hR.1 c1).1 c2).2 c4)⟩⟩, fun c5 => ⟨((hQ.1 c1).2 c5), ((hR.1 c1).2 c5)⟩⟩, fun c6 => ⟨(hQ.2 c6).1, fun x7 e7 => ⟨((hQ.2 c6).2 x7 e7).1, fun x8 e8 => fun x9 e9 => ih.2.2.2.2.2 _ _ _ ((((hQ.2 c6).2 x7 e7).2 x8 e8) x9 e9) ((((hR.2 c6).2 x7 e7).2 x8 e8) x9 e9)⟩⟩⟩
theorem wjX12_drawn {k : Nat} {t : XT} {a1 : Int32} {a2 : Int32} {Q R : Int32 → XT → Prop} (hQ : wqX12_drawn k t a1 a2 Q) (hR : wqX12_drawn k t a1 a2 R) : wqX12_drawn k t a1 a2 (fun r t => Q r t ∧ R r t) := (wkX12_drawnj Q R k).1 t _ _ hQ hR
theorem wiX12_drawn {k : Nat} {t : XT} {a1 : Int32} {a2 : Int32} {Q R S : Int32 → XT → Prop} (hQ : wqX12_drawn k t a1 a2 Q) (hR : wqX12_drawn k t a1 a2 R) (f : ∀ r t, Q r t → R r t → S r t) : wqX12_drawn k t a1 a2 S := wmX12_drawn (Nat.le_refl k) (fun r t h => f r t h.1 h.2) (wjX12_drawn hQ hR)
set_option maxHeartbeats 4000000 in
set_option maxRecDepth 100000 in
theorem wkX12_levelj (Q R : Int32 → XT → Prop) : ∀ k : Nat, (∀ (t : XT) (li : Nat → Int32) (lj : Nat → Int64), wpX12_level k 0 t li lj Q → wpX12_level k 0 t li lj R → wpX12_level k 0 t li lj (fun r t => Q r t ∧ R r t)) ∧ (∀ (t : XT) (li : Nat → Int32) (lj : Nat → Int64), wpX12_level k 1 t li lj Q → wpX12_level k 1 t li lj R → wpX12_level k 1 t li lj (fun r t => Q r t ∧ R r t)) ∧ (∀ (t : XT) (li : Nat → Int32) (lj : Nat → Int64), wpX12_level k 2 t li lj Q → wpX12_level k 2 t li lj R → wpX12_level k 2 t li lj (fun r t => Q r t ∧ R r t)) ∧ (∀ (t : XT) (li : Nat → Int32) (lj : Nat → Int64), wpX12_level k 3 t li lj Q → wpX12_level k 3 t li lj R → wpX12_level k 3 t li lj (fun r t => Q r t ∧ R r t)) ∧ (∀ (t : XT) (li : Nat → Int32) (lj : Nat → Int64), wpX12_level k 4 t li lj Q → wpX12_level k 4 t li lj R → wpX12_level k 4 t li lj (fun r t => Q r t ∧ R r t)) := by
  intro k
  induction k with
  | zero => exact ⟨fun _ _ _ hR _ => False.elim hR, fun _ _ _ hR _ => False.elim hR, fun _ _ _ hR _ => False.elim hR, fun _ _ _ hR _ => False.elim hR, fun _ _ _ hR _ => False.elim hR⟩
  | succ k ih =>
    refine ⟨?_, ?_, ?_, ?_, ?_⟩
    · intro t li lj hQ hR
      have hQ : wbX12_level_0 (wpX12_level k) k t li lj Q := hQ
      have hR : wbX12_level_0 (wpX12_level k) k t li lj R := hR
      show wbX12_level_0 (wpX12_level k) k t li lj (fun r t => Q r t ∧ R r t)
      unfold wbX12_level_0 at hQ hR ⊢
      exact ⟨fun c1 => ih.2.1 _ _ _ (hQ.1 c1) (hR.1 c1), fun c2 => wiX12_in (hQ.2 c2) (hR.2 c2) (fun y3_0 h3 i3 => ⟨fun c4 => wiX12_laysHeights (h3.1 c4) (i3.1 c4) (fun y5_0 h5 i5 => ih.2.2.1 _ _ _ h5 i5), fun c6 => ih.2.1 _ _ _ (h3.2 c6) (i3.2 c6)⟩)⟩
    · intro t li lj hQ hR
      have hQ : wbX12_level_1 (wpX12_level k) k t li lj Q := hQ
      have hR : wbX12_level_1 (wpX12_level k) k t li lj R := hR
      show wbX12_level_1 (wpX12_level k) k t li lj (fun r t => Q r t ∧ R r t)
      unfold wbX12_level_1 at hQ hR ⊢
      exact ⟨hQ, hR⟩
    · intro t li lj hQ hR
      have hQ : wbX12_level_2 (wpX12_level k) k t li lj Q := hQ
      have hR : wbX12_level_2 (wpX12_level k) k t li lj R := hR
      show wbX12_level_2 (wpX12_level k) k t li lj (fun r t => Q r t ∧ R r t)
      unfold wbX12_level_2 at hQ hR ⊢
      exact ⟨fun c1 => ⟨(hQ.1 c1), (hR.1 c1)⟩, fun c2 => wiX12_isThere (hQ.2 c2) (hR.2 c2) (fun y3_0 y3_1 h3 i3 => ⟨fun c4 => ih.2.2.2.2 _ _ _ (h3.1 c4) (i3.1 c4), fun c5 => ⟨(h3.2 c5).1, fun x6 e6 => ⟨fun c7 => ih.2.2.2.2 _ _ _ (((h3.2 c5).2 x6 e6).1 c7) (((i3.2 c5).2 x6 e6).1 c7), fun c8 => ⟨fun c9 => wiX12_alternating ((((h3.2 c5).2 x6 e6).2 c8).1 c9) ((((i3.2 c5).2 x6 e6).2 c8).1 c9) (fun y10_0 y10_1 h10 i10 => ih.2.2.2.1 _ _ _ h10 i10), fun c11 => ih.2.2.2.1 _ _ _ ((((h3.2 c5).2 x6 e6).2 c8).2 c11) ((((i3.2 c5).2 x6 e6).2 c8).2 c11)⟩⟩⟩⟩)⟩
    · intro t li lj hQ hR
      have hQ : wbX12_level_3 (wpX12_level k) k t li lj Q := hQ
      have hR : wbX12_level_3 (wpX12_level k) k t li lj R := hR
      show wbX12_level_3 (wpX12_level k) k t li lj (fun r t => Q r t ∧ R r t)
      unfold wbX12_level_3 at hQ hR ⊢
      exact fun x1 e1 => ih.2.2.2.2 _ _ _ (hQ x1 e1) (hR x1 e1)
    · intro t li lj hQ hR
      have hQ : wbX12_level_4 (wpX12_level k) k t li lj Q := hQ
      have hR : wbX12_level_4 (wpX12_level k) k t li lj R := hR
      show wbX12_level_4 (wpX12_level k) k t li lj (fun r t => Q r t ∧ R r t)
      unfold wbX12_level_4 at hQ hR ⊢
      exact fun x1 e1 => ih.2.2.1 _ _ _ (hQ x1 e1) (hR x1 e1)
theorem wjX12_level {k : Nat} {t : XT} {a1 : Int32} {a2 : Int32} {Q R : Int32 → XT → Prop} (hQ : wqX12_level k t a1 a2 Q) (hR : wqX12_level k t a1 a2 R) : wqX12_level k t a1 a2 (fun r t => Q r t ∧ R r t) := (wkX12_levelj Q R k).1 t _ _ hQ hR
theorem wiX12_level {k : Nat} {t : XT} {a1 : Int32} {a2 : Int32} {Q R S : Int32 → XT → Prop} (hQ : wqX12_level k t a1 a2 Q) (hR : wqX12_level k t a1 a2 R) (f : ∀ r t, Q r t → R r t → S r t) : wqX12_level k t a1 a2 S := wmX12_level (Nat.le_refl k) (fun r t h => f r t h.1 h.2) (wjX12_level hQ hR)
set_option maxHeartbeats 4000000 in
set_option maxRecDepth 100000 in
theorem wkX12_levelBettij (Q R : Int32 → XT → Prop) : ∀ k : Nat, (∀ (t : XT) (li : Nat → Int32) (lj : Nat → Int64), wpX12_levelBetti k 0 t li lj Q → wpX12_levelBetti k 0 t li lj R → wpX12_levelBetti k 0 t li lj (fun r t => Q r t ∧ R r t)) ∧ (∀ (t : XT) (li : Nat → Int32) (lj : Nat → Int64), wpX12_levelBetti k 1 t li lj Q → wpX12_levelBetti k 1 t li lj R → wpX12_levelBetti k 1 t li lj (fun r t => Q r t ∧ R r t)) ∧ (∀ (t : XT) (li : Nat → Int32) (lj : Nat → Int64), wpX12_levelBetti k 2 t li lj Q → wpX12_levelBetti k 2 t li lj R → wpX12_levelBetti k 2 t li lj (fun r t => Q r t ∧ R r t)) ∧ (∀ (t : XT) (li : Nat → Int32) (lj : Nat → Int64), wpX12_levelBetti k 3 t li lj Q → wpX12_levelBetti k 3 t li lj R → wpX12_levelBetti k 3 t li lj (fun r t => Q r t ∧ R r t)) ∧ (∀ (t : XT) (li : Nat → Int32) (lj : Nat → Int64), wpX12_levelBetti k 4 t li lj Q → wpX12_levelBetti k 4 t li lj R → wpX12_levelBetti k 4 t li lj (fun r t => Q r t ∧ R r t)) ∧ (∀ (t : XT) (li : Nat → Int32) (lj : Nat → Int64), wpX12_levelBetti k 5 t li lj Q → wpX12_levelBetti k 5 t li lj R → wpX12_levelBetti k 5 t li lj (fun r t => Q r t ∧ R r t)) ∧ (∀ (t : XT) (li : Nat → Int32) (lj : Nat → Int64), wpX12_levelBetti k 6 t li lj Q → wpX12_levelBetti k 6 t li lj R → wpX12_levelBetti k 6 t li lj (fun r t => Q r t ∧ R r t)) ∧ (∀ (t : XT) (li : Nat → Int32) (lj : Nat → Int64), wpX12_levelBetti k 7 t li lj Q → wpX12_levelBetti k 7 t li lj R → wpX12_levelBetti k 7 t li lj (fun r t => Q r t ∧ R r t)) ∧ (∀ (t : XT) (li : Nat → Int32) (lj : Nat → Int64), wpX12_levelBetti k 8 t li lj Q → wpX12_levelBetti k 8 t li lj R → wpX12_levelBetti k 8 t li lj (fun r t => Q r t ∧ R r t)) := by
  intro k
  induction k with
  | zero => exact ⟨fun _ _ _ hR _ => False.elim hR, fun _ _ _ hR _ => False.elim hR, fun _ _ _ hR _ => False.elim hR, fun _ _ _ hR _ => False.elim hR, fun _ _ _ hR _ => False.elim hR, fun _ _ _ hR _ => False.elim hR, fun _ _ _ hR _ => False.elim hR, fun _ _ _ hR _ => False.elim hR, fun _ _ _ hR _ => False.elim hR⟩
  | succ k ih =>
    refine ⟨?_, ?_, ?_, ?_, ?_, ?_, ?_, ?_, ?_⟩
    · intro t li lj hQ hR
      have hQ : wbX12_levelBetti_0 (wpX12_levelBetti k) k t li lj Q := hQ
      have hR : wbX12_levelBetti_0 (wpX12_levelBetti k) k t li lj R := hR
      show wbX12_levelBetti_0 (wpX12_levelBetti k) k t li lj (fun r t => Q r t ∧ R r t)
      unfold wbX12_levelBetti_0 at hQ hR ⊢
      exact ⟨fun c1 => ih.2.1 _ _ _ (hQ.1 c1) (hR.1 c1), fun c2 => wiX12_in (hQ.2 c2) (hR.2 c2) (fun y3_0 h3 i3 => ⟨fun c4 => wiX12_laysHeights (h3.1 c4) (i3.1 c4) (fun y5_0 h5 i5 => ih.2.2.1 _ _ _ h5 i5), fun c6 => ih.2.1 _ _ _ (h3.2 c6) (i3.2 c6)⟩)⟩
    · intro t li lj hQ hR
      have hQ : wbX12_levelBetti_1 (wpX12_levelBetti k) k t li lj Q := hQ
      have hR : wbX12_levelBetti_1 (wpX12_levelBetti k) k t li lj R := hR
      show wbX12_levelBetti_1 (wpX12_levelBetti k) k t li lj (fun r t => Q r t ∧ R r t)
      unfold wbX12_levelBetti_1 at hQ hR ⊢
      exact ⟨hQ, hR⟩
    · intro t li lj hQ hR
      have hQ : wbX12_levelBetti_2 (wpX12_levelBetti k) k t li lj Q := hQ
      have hR : wbX12_levelBetti_2 (wpX12_levelBetti k) k t li lj R := hR
      show wbX12_levelBetti_2 (wpX12_levelBetti k) k t li lj (fun r t => Q r t ∧ R r t)
      unfold wbX12_levelBetti_2 at hQ hR ⊢
      exact ⟨fun c1 => wiX12_bettiTaken (hQ.1 c1) (hR.1 c1) (fun y2_0 y2_1 h2 i2 => ⟨h2, i2⟩), fun c3 => ⟨(hQ.2 c3).1, fun x4 e4 => ih.2.2.2.1 _ _ _ ((hQ.2 c3).2 x4 e4) ((hR.2 c3).2 x4 e4)⟩⟩
    · intro t li lj hQ hR
      have hQ : wbX12_levelBetti_3 (wpX12_levelBetti k) k t li lj Q := hQ
      have hR : wbX12_levelBetti_3 (wpX12_levelBetti k) k t li lj R := hR
      show wbX12_levelBetti_3 (wpX12_levelBetti k) k t li lj (fun r t => Q r t ∧ R r t)
      unfold wbX12_levelBetti_3 at hQ hR ⊢
      exact ⟨fun c1 => fun x2 e2 => ih.2.2.1 _ _ _ ((hQ.1 c1) x2 e2) ((hR.1 c1) x2 e2), fun c3 => wiX12_isThere (hQ.2 c3) (hR.2 c3) (fun y4_0 y4_1 h4 i4 => ⟨fun c5 => ih.2.2.2.2.1 _ _ _ (h4.1 c5) (i4.1 c5), fun c6 => ⟨(h4.2 c6).1, fun x7 e7 => ⟨fun c8 => ih.2.2.2.2.1 _ _ _ (((h4.2 c6).2 x7 e7).1 c8) (((i4.2 c6).2 x7 e7).1 c8), fun c9 => ⟨(((h4.2 c6).2 x7 e7).2 c9).1, fun x10 e10 => ⟨((((h4.2 c6).2 x7 e7).2 c9).2 x10 e10).1, fun x11 e11 => fun x12 e12 => fun x13 e13 => ⟨fun c14 => ih.2.2.2.2.1 _ _ _ ((((((((h4.2 c6).2 x7 e7).2 c9).2 x10 e10).2 x11 e11) x12 e12) x13 e13).1 c14) ((((((((i4.2 c6).2 x7 e7).2 c9).2 x10 e10).2 x11 e11) x12 e12) x13 e13).1 c14), fun c15 => ih.2.2.2.2.2.1 _ _ _ ((((((((h4.2 c6).2 x7 e7).2 c9).2 x10 e10).2 x11 e11) x12 e12) x13 e13).2 c15) ((((((((i4.2 c6).2 x7 e7).2 c9).2 x10 e10).2 x11 e11) x12 e12) x13 e13).2 c15)⟩⟩⟩⟩⟩⟩)⟩
    · intro t li lj hQ hR
      have hQ : wbX12_levelBetti_4 (wpX12_levelBetti k) k t li lj Q := hQ
      have hR : wbX12_levelBetti_4 (wpX12_levelBetti k) k t li lj R := hR
      show wbX12_levelBetti_4 (wpX12_levelBetti k) k t li lj (fun r t => Q r t ∧ R r t)
      unfold wbX12_levelBetti_4 at hQ hR ⊢
      exact ih.2.2.2.2.2.1 _ _ _ hQ hR
    · intro t li lj hQ hR
      have hQ : wbX12_levelBetti_5 (wpX12_levelBetti k) k t li lj Q := hQ
      have hR : wbX12_levelBetti_5 (wpX12_levelBetti k) k t li lj R := hR
      show wbX12_levelBetti_5 (wpX12_levelBetti k) k t li lj (fun r t => Q r t ∧ R r t)
      unfold wbX12_levelBetti_5 at hQ hR ⊢
      exact ⟨hQ.1, fun x1 e1 => ⟨fun c2 => ih.2.2.2.2.2.2.1 _ _ _ ((hQ.2 x1 e1).1 c2) ((hR.2 x1 e1).1 c2), fun c3 => ⟨fun c4 => ih.2.2.2.2.2.2.2.1 _ _ _ (((hQ.2 x1 e1).2 c3).1 c4) (((hR.2 x1 e1).2 c3).1 c4), fun c5 => wiX12_isThere (((hQ.2 x1 e1).2 c3).2 c5) (((hR.2 x1 e1).2 c3).2 c5) (fun y6_0 y6_1 h6 i6 => ⟨fun c7 => ih.2.2.2.2.2.2.2.1 _ _ _ (h6.1 c7) (i6.1 c7), fun c8 => ih.2.2.2.2.2.2.1 _ _ _ (h6.2 c8) (i6.2 c8)⟩)⟩⟩⟩
    · intro t li lj hQ hR
      have hQ : wbX12_levelBetti_6 (wpX12_levelBetti k) k t li lj Q := hQ
      have hR : wbX12_levelBetti_6 (wpX12_levelBetti k) k t li lj R := hR
      show wbX12_levelBetti_6 (wpX12_levelBetti k) k t li lj (fun r t => Q r t ∧ R r t)
      unfold wbX12_levelBetti_6 at hQ hR ⊢
      exact ih.2.2.2.2.2.2.2.2 _ _ _ hQ hR
    · intro t li lj hQ hR
      have hQ : wbX12_levelBetti_7 (wpX12_levelBetti k) k t li lj Q := hQ
      have hR : wbX12_levelBetti_7 (wpX12_levelBetti k) k t li lj R := hR
      show wbX12_levelBetti_7 (wpX12_levelBetti k) k t li lj (fun r t => Q r t ∧ R r t)
      unfold wbX12_levelBetti_7 at hQ hR ⊢
      exact ih.2.2.2.2.2.2.2.2 _ _ _ hQ hR
    · intro t li lj hQ hR
      have hQ : wbX12_levelBetti_8 (wpX12_levelBetti k) k t li lj Q := hQ
      have hR : wbX12_levelBetti_8 (wpX12_levelBetti k) k t li lj R := hR
      show wbX12_levelBetti_8 (wpX12_levelBetti k) k t li lj (fun r t => Q r t ∧ R r t)
      unfold wbX12_levelBetti_8 at hQ hR ⊢
      exact ⟨hQ.1, fun x1 e1 => fun x2 e2 => ih.2.2.2.1 _ _ _ ((hQ.2 x1 e1) x2 e2) ((hR.2 x1 e1) x2 e2)⟩
theorem wjX12_levelBetti {k : Nat} {t : XT} {a1 : Int32} {a2 : Int32} {Q R : Int32 → XT → Prop} (hQ : wqX12_levelBetti k t a1 a2 Q) (hR : wqX12_levelBetti k t a1 a2 R) : wqX12_levelBetti k t a1 a2 (fun r t => Q r t ∧ R r t) := (wkX12_levelBettij Q R k).1 t _ _ hQ hR
theorem wiX12_levelBetti {k : Nat} {t : XT} {a1 : Int32} {a2 : Int32} {Q R S : Int32 → XT → Prop} (hQ : wqX12_levelBetti k t a1 a2 Q) (hR : wqX12_levelBetti k t a1 a2 R) (f : ∀ r t, Q r t → R r t → S r t) : wqX12_levelBetti k t a1 a2 S := wmX12_levelBetti (Nat.le_refl k) (fun r t h => f r t h.1 h.2) (wjX12_levelBetti hQ hR)
set_option maxHeartbeats 4000000 in
set_option maxRecDepth 100000 in
theorem wkX12_pairManyj (Q R : Int32 → XT → Prop) : ∀ k : Nat, (∀ (t : XT) (li : Nat → Int32) (lj : Nat → Int64), wpX12_pairMany k 0 t li lj Q → wpX12_pairMany k 0 t li lj R → wpX12_pairMany k 0 t li lj (fun r t => Q r t ∧ R r t)) ∧ (∀ (t : XT) (li : Nat → Int32) (lj : Nat → Int64), wpX12_pairMany k 1 t li lj Q → wpX12_pairMany k 1 t li lj R → wpX12_pairMany k 1 t li lj (fun r t => Q r t ∧ R r t)) := by
  intro k
  induction k with
  | zero => exact ⟨fun _ _ _ hR _ => False.elim hR, fun _ _ _ hR _ => False.elim hR⟩
  | succ k ih =>
    refine ⟨?_, ?_⟩
    · intro t li lj hQ hR
      have hQ : wbX12_pairMany_0 (wpX12_pairMany k) k t li lj Q := hQ
      have hR : wbX12_pairMany_0 (wpX12_pairMany k) k t li lj R := hR
      show wbX12_pairMany_0 (wpX12_pairMany k) k t li lj (fun r t => Q r t ∧ R r t)
      unfold wbX12_pairMany_0 at hQ hR ⊢
      exact ih.2 _ _ _ hQ hR
    · intro t li lj hQ hR
      have hQ : wbX12_pairMany_1 (wpX12_pairMany k) k t li lj Q := hQ
      have hR : wbX12_pairMany_1 (wpX12_pairMany k) k t li lj R := hR
      show wbX12_pairMany_1 (wpX12_pairMany k) k t li lj (fun r t => Q r t ∧ R r t)
      unfold wbX12_pairMany_1 at hQ hR ⊢
      exact ⟨fun c1 => ⟨(hQ.1 c1), (hR.1 c1)⟩, fun c2 => wiX12_isLower (hQ.2 c2) (hR.2 c2) (fun y3_0 y3_1 h3 i3 => wiX12_truth h3 i3 (fun y4_0 h4 i4 => fun x5 e5 => fun x6 e6 => ih.2 _ _ _ ((h4 x5 e5) x6 e6) ((i4 x5 e5) x6 e6)))⟩
theorem wjX12_pairMany {k : Nat} {t : XT}  {Q R : Int32 → XT → Prop} (hQ : wqX12_pairMany k t  Q) (hR : wqX12_pairMany k t  R) : wqX12_pairMany k t  (fun r t => Q r t ∧ R r t) := (wkX12_pairManyj Q R k).1 t _ _ hQ hR
theorem wiX12_pairMany {k : Nat} {t : XT}  {Q R S : Int32 → XT → Prop} (hQ : wqX12_pairMany k t  Q) (hR : wqX12_pairMany k t  R) (f : ∀ r t, Q r t → R r t → S r t) : wqX12_pairMany k t  S := wmX12_pairMany (Nat.le_refl k) (fun r t h => f r t h.1 h.2) (wjX12_pairMany hQ hR)
set_option maxHeartbeats 4000000 in
set_option maxRecDepth 100000 in
theorem wkX12_keepj (Q R : Int32 → XT → Prop) : ∀ k : Nat, (∀ (t : XT) (li : Nat → Int32) (lj : Nat → Int64), wpX12_keep k 0 t li lj Q → wpX12_keep k 0 t li lj R → wpX12_keep k 0 t li lj (fun r t => Q r t ∧ R r t)) ∧ (∀ (t : XT) (li : Nat → Int32) (lj : Nat → Int64), wpX12_keep k 1 t li lj Q → wpX12_keep k 1 t li lj R → wpX12_keep k 1 t li lj (fun r t => Q r t ∧ R r t)) ∧ (∀ (t : XT) (li : Nat → Int32) (lj : Nat → Int64), wpX12_keep k 2 t li lj Q → wpX12_keep k 2 t li lj R → wpX12_keep k 2 t li lj (fun r t => Q r t ∧ R r t)) := by
  intro k
  induction k with
  | zero => exact ⟨fun _ _ _ hR _ => False.elim hR, fun _ _ _ hR _ => False.elim hR, fun _ _ _ hR _ => False.elim hR⟩
  | succ k ih =>
    refine ⟨?_, ?_, ?_⟩
    · intro t li lj hQ hR
      have hQ : wbX12_keep_0 (wpX12_keep k) k t li lj Q := hQ
      have hR : wbX12_keep_0 (wpX12_keep k) k t li lj R := hR
      show wbX12_keep_0 (wpX12_keep k) k t li lj (fun r t => Q r t ∧ R r t)
      unfold wbX12_keep_0 at hQ hR ⊢
      exact ⟨fun c1 => ih.2.1 _ _ _ (hQ.1 c1) (hR.1 c1), fun c2 => wiX12_in (hQ.2 c2) (hR.2 c2) (fun y3_0 h3 i3 => ⟨fun c4 => ⟨(h3.1 c4).1, fun x5 e5 => ih.2.2 _ _ _ ((h3.1 c4).2 x5 e5) ((i3.1 c4).2 x5 e5)⟩, fun c6 => ih.2.1 _ _ _ (h3.2 c6) (i3.2 c6)⟩)⟩
    · intro t li lj hQ hR
      have hQ : wbX12_keep_1 (wpX12_keep k) k t li lj Q := hQ
      have hR : wbX12_keep_1 (wpX12_keep k) k t li lj R := hR
      show wbX12_keep_1 (wpX12_keep k) k t li lj (fun r t => Q r t ∧ R r t)
      unfold wbX12_keep_1 at hQ hR ⊢
      exact ⟨hQ, hR⟩
    · intro t li lj hQ hR
      have hQ : wbX12_keep_2 (wpX12_keep k) k t li lj Q := hQ
      have hR : wbX12_keep_2 (wpX12_keep k) k t li lj R := hR
      show wbX12_keep_2 (wpX12_keep k) k t li lj (fun r t => Q r t ∧ R r t)
      unfold wbX12_keep_2 at hQ hR ⊢
      exact ⟨fun c1 => wiX12_pairMany (hQ.1 c1) (hR.1 c1) (fun y2_0 y2_1 h2 i2 => ⟨h2, i2⟩), fun c3 => fun x4 e4 => fun x5 e5 => ⟨(((hQ.2 c3) x4 e4) x5 e5).1, fun x6 e6 => ⟨((((hQ.2 c3) x4 e4) x5 e5).2 x6 e6).1, fun x7 e7 => fun x8 e8 => ih.2.2 _ _ _ ((((((hQ.2 c3) x4 e4) x5 e5).2 x6 e6).2 x7 e7) x8 e8) ((((((hR.2 c3) x4 e4) x5 e5).2 x6 e6).2 x7 e7) x8 e8)⟩⟩⟩
theorem wjX12_keep {k : Nat} {t : XT} {a1 : Int32} {Q R : Int32 → XT → Prop} (hQ : wqX12_keep k t a1 Q) (hR : wqX12_keep k t a1 R) : wqX12_keep k t a1 (fun r t => Q r t ∧ R r t) := (wkX12_keepj Q R k).1 t _ _ hQ hR
theorem wiX12_keep {k : Nat} {t : XT} {a1 : Int32} {Q R S : Int32 → XT → Prop} (hQ : wqX12_keep k t a1 Q) (hR : wqX12_keep k t a1 R) (f : ∀ r t, Q r t → R r t → S r t) : wqX12_keep k t a1 S := wmX12_keep (Nat.le_refl k) (fun r t h => f r t h.1 h.2) (wjX12_keep hQ hR)
set_option maxHeartbeats 4000000 in
set_option maxRecDepth 100000 in
theorem wkX12_samej (Q R : Int32 → XT → Prop) : ∀ k : Nat, (∀ (t : XT) (li : Nat → Int32) (lj : Nat → Int64), wpX12_same k 0 t li lj Q → wpX12_same k 0 t li lj R → wpX12_same k 0 t li lj (fun r t => Q r t ∧ R r t)) ∧ (∀ (t : XT) (li : Nat → Int32) (lj : Nat → Int64), wpX12_same k 1 t li lj Q → wpX12_same k 1 t li lj R → wpX12_same k 1 t li lj (fun r t => Q r t ∧ R r t)) ∧ (∀ (t : XT) (li : Nat → Int32) (lj : Nat → Int64), wpX12_same k 2 t li lj Q → wpX12_same k 2 t li lj R → wpX12_same k 2 t li lj (fun r t => Q r t ∧ R r t)) ∧ (∀ (t : XT) (li : Nat → Int32) (lj : Nat → Int64), wpX12_same k 3 t li lj Q → wpX12_same k 3 t li lj R → wpX12_same k 3 t li lj (fun r t => Q r t ∧ R r t)) := by
  intro k
  induction k with
  | zero => exact ⟨fun _ _ _ hR _ => False.elim hR, fun _ _ _ hR _ => False.elim hR, fun _ _ _ hR _ => False.elim hR, fun _ _ _ hR _ => False.elim hR⟩
  | succ k ih =>
    refine ⟨?_, ?_, ?_, ?_⟩
    · intro t li lj hQ hR
      have hQ : wbX12_same_0 (wpX12_same k) k t li lj Q := hQ
      have hR : wbX12_same_0 (wpX12_same k) k t li lj R := hR
      show wbX12_same_0 (wpX12_same k) k t li lj (fun r t => Q r t ∧ R r t)
      unfold wbX12_same_0 at hQ hR ⊢
      exact wiX12_in hQ hR (fun y1_0 h1 i1 => ⟨fun c2 => ⟨(h1.1 c2).1, fun x3 e3 => ⟨fun c4 => ih.2.1 _ _ _ (((h1.1 c2).2 x3 e3).1 c4) (((i1.1 c2).2 x3 e3).1 c4), fun c5 => ⟨(((h1.1 c2).2 x3 e3).2 c5), (((i1.1 c2).2 x3 e3).2 c5)⟩⟩⟩, fun c6 => ⟨(h1.2 c6), (i1.2 c6)⟩⟩)
    · intro t li lj hQ hR
      have hQ : wbX12_same_1 (wpX12_same k) k t li lj Q := hQ
      have hR : wbX12_same_1 (wpX12_same k) k t li lj R := hR
      show wbX12_same_1 (wpX12_same k) k t li lj (fun r t => Q r t ∧ R r t)
      unfold wbX12_same_1 at hQ hR ⊢
      exact ⟨fun c1 => ⟨(hQ.1 c1), (hR.1 c1)⟩, fun c2 => wiX12_isLower (hQ.2 c2) (hR.2 c2) (fun y3_0 y3_1 h3 i3 => ⟨fun c4 => ih.2.2.1 _ _ _ (h3.1 c4) (i3.1 c4), fun c5 => fun x6 e6 => fun x7 e7 => ⟨(((h3.2 c5) x6 e6) x7 e7).1, fun x8 e8 => ⟨((((h3.2 c5) x6 e6) x7 e7).2 x8 e8).1, fun x9 e9 => ⟨fun c10 => ih.2.2.1 _ _ _ ((((((h3.2 c5) x6 e6) x7 e7).2 x8 e8).2 x9 e9).1 c10) ((((((i3.2 c5) x6 e6) x7 e7).2 x8 e8).2 x9 e9).1 c10), fun c11 => ih.2.2.2 _ _ _ ((((((h3.2 c5) x6 e6) x7 e7).2 x8 e8).2 x9 e9).2 c11) ((((((i3.2 c5) x6 e6) x7 e7).2 x8 e8).2 x9 e9).2 c11)⟩⟩⟩⟩)⟩
    · intro t li lj hQ hR
      have hQ : wbX12_same_2 (wpX12_same k) k t li lj Q := hQ
      have hR : wbX12_same_2 (wpX12_same k) k t li lj R := hR
      show wbX12_same_2 (wpX12_same k) k t li lj (fun r t => Q r t ∧ R r t)
      unfold wbX12_same_2 at hQ hR ⊢
      exact ih.2.2.2 _ _ _ hQ hR
    · intro t li lj hQ hR
      have hQ : wbX12_same_3 (wpX12_same k) k t li lj Q := hQ
      have hR : wbX12_same_3 (wpX12_same k) k t li lj R := hR
      show wbX12_same_3 (wpX12_same k) k t li lj (fun r t => Q r t ∧ R r t)
      unfold wbX12_same_3 at hQ hR ⊢
      exact wiX12_truth hQ hR (fun y1_0 h1 i1 => fun x2 e2 => fun x3 e3 => ih.2.1 _ _ _ ((h1 x2 e2) x3 e3) ((i1 x2 e2) x3 e3))
theorem wjX12_same {k : Nat} {t : XT} {a1 : Int32} {Q R : Int32 → XT → Prop} (hQ : wqX12_same k t a1 Q) (hR : wqX12_same k t a1 R) : wqX12_same k t a1 (fun r t => Q r t ∧ R r t) := (wkX12_samej Q R k).1 t _ _ hQ hR
theorem wiX12_same {k : Nat} {t : XT} {a1 : Int32} {Q R S : Int32 → XT → Prop} (hQ : wqX12_same k t a1 Q) (hR : wqX12_same k t a1 R) (f : ∀ r t, Q r t → R r t → S r t) : wqX12_same k t a1 S := wmX12_same (Nat.le_refl k) (fun r t h => f r t h.1 h.2) (wjX12_same hQ hR)
set_option maxHeartbeats 4000000 in
set_option maxRecDepth 100000 in
theorem wkX12_greatestDimj (Q R : Int32 → XT → Prop) : ∀ k : Nat, (∀ (t : XT) (li : Nat → Int32) (lj : Nat → Int64), wpX12_greatestDim k 0 t li lj Q → wpX12_greatestDim k 0 t li lj R → wpX12_greatestDim k 0 t li lj (fun r t => Q r t ∧ R r t)) ∧ (∀ (t : XT) (li : Nat → Int32) (lj : Nat → Int64), wpX12_greatestDim k 1 t li lj Q → wpX12_greatestDim k 1 t li lj R → wpX12_greatestDim k 1 t li lj (fun r t => Q r t ∧ R r t)) ∧ (∀ (t : XT) (li : Nat → Int32) (lj : Nat → Int64), wpX12_greatestDim k 2 t li lj Q → wpX12_greatestDim k 2 t li lj R → wpX12_greatestDim k 2 t li lj (fun r t => Q r t ∧ R r t)) := by
  intro k
  induction k with
  | zero => exact ⟨fun _ _ _ hR _ => False.elim hR, fun _ _ _ hR _ => False.elim hR, fun _ _ _ hR _ => False.elim hR⟩
  | succ k ih =>
    refine ⟨?_, ?_, ?_⟩
    · intro t li lj hQ hR
      have hQ : wbX12_greatestDim_0 (wpX12_greatestDim k) k t li lj Q := hQ
      have hR : wbX12_greatestDim_0 (wpX12_greatestDim k) k t li lj R := hR
      show wbX12_greatestDim_0 (wpX12_greatestDim k) k t li lj (fun r t => Q r t ∧ R r t)
      unfold wbX12_greatestDim_0 at hQ hR ⊢
      exact ih.2.1 _ _ _ hQ hR
    · intro t li lj hQ hR
      have hQ : wbX12_greatestDim_1 (wpX12_greatestDim k) k t li lj Q := hQ
      have hR : wbX12_greatestDim_1 (wpX12_greatestDim k) k t li lj R := hR
      show wbX12_greatestDim_1 (wpX12_greatestDim k) k t li lj (fun r t => Q r t ∧ R r t)
      unfold wbX12_greatestDim_1 at hQ hR ⊢
      exact ⟨fun c1 => ⟨(hQ.1 c1), (hR.1 c1)⟩, fun c2 => wiX12_isThere (hQ.2 c2) (hR.2 c2) (fun y3_0 y3_1 h3 i3 => ⟨fun c4 => ih.2.2 _ _ _ (h3.1 c4) (i3.1 c4), fun c5 => wiX12_dimOf (h3.2 c5) (i3.2 c5) (fun y6_0 y6_1 h6 i6 => fun x7 e7 => ih.2.2 _ _ _ (h6 x7 e7) (i6 x7 e7))⟩)⟩
    · intro t li lj hQ hR
      have hQ : wbX12_greatestDim_2 (wpX12_greatestDim k) k t li lj Q := hQ
      have hR : wbX12_greatestDim_2 (wpX12_greatestDim k) k t li lj R := hR
      show wbX12_greatestDim_2 (wpX12_greatestDim k) k t li lj (fun r t => Q r t ∧ R r t)
      unfold wbX12_greatestDim_2 at hQ hR ⊢
      exact fun x1 e1 => ih.2.1 _ _ _ (hQ x1 e1) (hR x1 e1)
theorem wjX12_greatestDim {k : Nat} {t : XT}  {Q R : Int32 → XT → Prop} (hQ : wqX12_greatestDim k t  Q) (hR : wqX12_greatestDim k t  R) : wqX12_greatestDim k t  (fun r t => Q r t ∧ R r t) := (wkX12_greatestDimj Q R k).1 t _ _ hQ hR
theorem wiX12_greatestDim {k : Nat} {t : XT}  {Q R S : Int32 → XT → Prop} (hQ : wqX12_greatestDim k t  Q) (hR : wqX12_greatestDim k t  R) (f : ∀ r t, Q r t → R r t → S r t) : wqX12_greatestDim k t  S := wmX12_greatestDim (Nat.le_refl k) (fun r t h => f r t h.1 h.2) (wjX12_greatestDim hQ hR)
set_option maxHeartbeats 4000000 in
set_option maxRecDepth 100000 in
theorem wkX12_eulerj (Q R : Int32 → XT → Prop) : ∀ k : Nat, (∀ (t : XT) (li : Nat → Int32) (lj : Nat → Int64), wpX12_euler k 0 t li lj Q → wpX12_euler k 0 t li lj R → wpX12_euler k 0 t li lj (fun r t => Q r t ∧ R r t)) ∧ (∀ (t : XT) (li : Nat → Int32) (lj : Nat → Int64), wpX12_euler k 1 t li lj Q → wpX12_euler k 1 t li lj R → wpX12_euler k 1 t li lj (fun r t => Q r t ∧ R r t)) ∧ (∀ (t : XT) (li : Nat → Int32) (lj : Nat → Int64), wpX12_euler k 2 t li lj Q → wpX12_euler k 2 t li lj R → wpX12_euler k 2 t li lj (fun r t => Q r t ∧ R r t)) := by
  intro k
  induction k with
  | zero => exact ⟨fun _ _ _ hR _ => False.elim hR, fun _ _ _ hR _ => False.elim hR, fun _ _ _ hR _ => False.elim hR⟩
  | succ k ih =>
    refine ⟨?_, ?_, ?_⟩
    · intro t li lj hQ hR
      have hQ : wbX12_euler_0 (wpX12_euler k) k t li lj Q := hQ
      have hR : wbX12_euler_0 (wpX12_euler k) k t li lj R := hR
      show wbX12_euler_0 (wpX12_euler k) k t li lj (fun r t => Q r t ∧ R r t)
      unfold wbX12_euler_0 at hQ hR ⊢
      exact ih.2.1 _ _ _ hQ hR
    · intro t li lj hQ hR
      have hQ : wbX12_euler_1 (wpX12_euler k) k t li lj Q := hQ
      have hR : wbX12_euler_1 (wpX12_euler k) k t li lj R := hR
      show wbX12_euler_1 (wpX12_euler k) k t li lj (fun r t => Q r t ∧ R r t)
      unfold wbX12_euler_1 at hQ hR ⊢
      exact ⟨fun c1 => ⟨(hQ.1 c1), (hR.1 c1)⟩, fun c2 => wiX12_isThere (hQ.2 c2) (hR.2 c2) (fun y3_0 y3_1 h3 i3 => ⟨fun c4 => ih.2.2 _ _ _ (h3.1 c4) (i3.1 c4), fun c5 => wiX12_alternating (h3.2 c5) (i3.2 c5) (fun y6_0 y6_1 h6 i6 => ih.2.2 _ _ _ h6 i6)⟩)⟩
    · intro t li lj hQ hR
      have hQ : wbX12_euler_2 (wpX12_euler k) k t li lj Q := hQ
      have hR : wbX12_euler_2 (wpX12_euler k) k t li lj R := hR
      show wbX12_euler_2 (wpX12_euler k) k t li lj (fun r t => Q r t ∧ R r t)
      unfold wbX12_euler_2 at hQ hR ⊢
      exact fun x1 e1 => fun x2 e2 => ih.2.1 _ _ _ ((hQ x1 e1) x2 e2) ((hR x1 e1) x2 e2)
theorem wjX12_euler {k : Nat} {t : XT}  {Q R : Int32 → XT → Prop} (hQ : wqX12_euler k t  Q) (hR : wqX12_euler k t  R) : wqX12_euler k t  (fun r t => Q r t ∧ R r t) := (wkX12_eulerj Q R k).1 t _ _ hQ hR
theorem wiX12_euler {k : Nat} {t : XT}  {Q R S : Int32 → XT → Prop} (hQ : wqX12_euler k t  Q) (hR : wqX12_euler k t  R) (f : ∀ r t, Q r t → R r t → S r t) : wqX12_euler k t  S := wmX12_euler (Nat.le_refl k) (fun r t h => f r t h.1 h.2) (wjX12_euler hQ hR)
set_option maxHeartbeats 4000000 in
set_option maxRecDepth 100000 in
theorem wkX12_partsManyj (Q R : Int32 → XT → Prop) : ∀ k : Nat, (∀ (t : XT) (li : Nat → Int32) (lj : Nat → Int64), wpX12_partsMany k 0 t li lj Q → wpX12_partsMany k 0 t li lj R → wpX12_partsMany k 0 t li lj (fun r t => Q r t ∧ R r t)) ∧ (∀ (t : XT) (li : Nat → Int32) (lj : Nat → Int64), wpX12_partsMany k 1 t li lj Q → wpX12_partsMany k 1 t li lj R → wpX12_partsMany k 1 t li lj (fun r t => Q r t ∧ R r t)) ∧ (∀ (t : XT) (li : Nat → Int32) (lj : Nat → Int64), wpX12_partsMany k 2 t li lj Q → wpX12_partsMany k 2 t li lj R → wpX12_partsMany k 2 t li lj (fun r t => Q r t ∧ R r t)) ∧ (∀ (t : XT) (li : Nat → Int32) (lj : Nat → Int64), wpX12_partsMany k 3 t li lj Q → wpX12_partsMany k 3 t li lj R → wpX12_partsMany k 3 t li lj (fun r t => Q r t ∧ R r t)) ∧ (∀ (t : XT) (li : Nat → Int32) (lj : Nat → Int64), wpX12_partsMany k 4 t li lj Q → wpX12_partsMany k 4 t li lj R → wpX12_partsMany k 4 t li lj (fun r t => Q r t ∧ R r t)) ∧ (∀ (t : XT) (li : Nat → Int32) (lj : Nat → Int64), wpX12_partsMany k 5 t li lj Q → wpX12_partsMany k 5 t li lj R → wpX12_partsMany k 5 t li lj (fun r t => Q r t ∧ R r t)) ∧ (∀ (t : XT) (li : Nat → Int32) (lj : Nat → Int64), wpX12_partsMany k 6 t li lj Q → wpX12_partsMany k 6 t li lj R → wpX12_partsMany k 6 t li lj (fun r t => Q r t ∧ R r t)) ∧ (∀ (t : XT) (li : Nat → Int32) (lj : Nat → Int64), wpX12_partsMany k 7 t li lj Q → wpX12_partsMany k 7 t li lj R → wpX12_partsMany k 7 t li lj (fun r t => Q r t ∧ R r t)) ∧ (∀ (t : XT) (li : Nat → Int32) (lj : Nat → Int64), wpX12_partsMany k 8 t li lj Q → wpX12_partsMany k 8 t li lj R → wpX12_partsMany k 8 t li lj (fun r t => Q r t ∧ R r t)) := by
  intro k
  induction k with
  | zero => exact ⟨fun _ _ _ hR _ => False.elim hR, fun _ _ _ hR _ => False.elim hR, fun _ _ _ hR _ => False.elim hR, fun _ _ _ hR _ => False.elim hR, fun _ _ _ hR _ => False.elim hR, fun _ _ _ hR _ => False.elim hR, fun _ _ _ hR _ => False.elim hR, fun _ _ _ hR _ => False.elim hR, fun _ _ _ hR _ => False.elim hR⟩
  | succ k ih =>
    refine ⟨?_, ?_, ?_, ?_, ?_, ?_, ?_, ?_, ?_⟩
    · intro t li lj hQ hR
      have hQ : wbX12_partsMany_0 (wpX12_partsMany k) k t li lj Q := hQ
      have hR : wbX12_partsMany_0 (wpX12_partsMany k) k t li lj R := hR
      show wbX12_partsMany_0 (wpX12_partsMany k) k t li lj (fun r t => Q r t ∧ R r t)
      unfold wbX12_partsMany_0 at hQ hR ⊢
      exact ih.2.1 _ _ _ hQ hR
    · intro t li lj hQ hR
      have hQ : wbX12_partsMany_1 (wpX12_partsMany k) k t li lj Q := hQ
      have hR : wbX12_partsMany_1 (wpX12_partsMany k) k t li lj R := hR
      show wbX12_partsMany_1 (wpX12_partsMany k) k t li lj (fun r t => Q r t ∧ R r t)
      unfold wbX12_partsMany_1 at hQ hR ⊢
      exact ⟨fun c1 => ih.2.2.1 _ _ _ (hQ.1 c1) (hR.1 c1), fun c2 => ⟨(hQ.2 c2).1, fun x3 e3 => fun x4 e4 => ih.2.1 _ _ _ (((hQ.2 c2).2 x3 e3) x4 e4) (((hR.2 c2).2 x3 e3) x4 e4)⟩⟩
    · intro t li lj hQ hR
      have hQ : wbX12_partsMany_2 (wpX12_partsMany k) k t li lj Q := hQ
      have hR : wbX12_partsMany_2 (wpX12_partsMany k) k t li lj R := hR
      show wbX12_partsMany_2 (wpX12_partsMany k) k t li lj (fun r t => Q r t ∧ R r t)
      unfold wbX12_partsMany_2 at hQ hR ⊢
      exact ⟨fun c1 => ih.2.2.2.2.2.2.1 _ _ _ (hQ.1 c1) (hR.1 c1), fun c2 => ih.2.2.2.1 _ _ _ (hQ.2 c2) (hR.2 c2)⟩
    · intro t li lj hQ hR
      have hQ : wbX12_partsMany_3 (wpX12_partsMany k) k t li lj Q := hQ
      have hR : wbX12_partsMany_3 (wpX12_partsMany k) k t li lj R := hR
      show wbX12_partsMany_3 (wpX12_partsMany k) k t li lj (fun r t => Q r t ∧ R r t)
      unfold wbX12_partsMany_3 at hQ hR ⊢
      exact ⟨fun c1 => ih.2.2.1 _ _ _ (hQ.1 c1) (hR.1 c1), fun c2 => ih.2.2.2.2.1 _ _ _ (hQ.2 c2) (hR.2 c2)⟩
    · intro t li lj hQ hR
      have hQ : wbX12_partsMany_4 (wpX12_partsMany k) k t li lj Q := hQ
      have hR : wbX12_partsMany_4 (wpX12_partsMany k) k t li lj R := hR
      show wbX12_partsMany_4 (wpX12_partsMany k) k t li lj (fun r t => Q r t ∧ R r t)
      unfold wbX12_partsMany_4 at hQ hR ⊢
      exact ⟨fun c1 => fun x2 e2 => ih.2.2.2.1 _ _ _ ((hQ.1 c1) x2 e2) ((hR.1 c1) x2 e2), fun c3 => wiX12_isFaceThere (hQ.2 c3) (hR.2 c3) (fun y4_0 y4_1 h4 i4 => ⟨fun c5 => ih.2.2.2.2.2.1 _ _ _ (h4.1 c5) (i4.1 c5), fun c6 => ⟨(h4.2 c6).1, fun x7 e7 => ⟨((h4.2 c6).2 x7 e7).1, fun x8 e8 => ⟨fun c9 => ih.2.2.2.2.2.1 _ _ _ ((((h4.2 c6).2 x7 e7).2 x8 e8).1 c9) ((((i4.2 c6).2 x7 e7).2 x8 e8).1 c9), fun c10 => ⟨((((h4.2 c6).2 x7 e7).2 x8 e8).2 c10).1, fun x11 e11 => ⟨(((((h4.2 c6).2 x7 e7).2 x8 e8).2 c10).2 x11 e11).1, fun x12 e12 => fun x13 e13 => ⟨(((((((h4.2 c6).2 x7 e7).2 x8 e8).2 c10).2 x11 e11).2 x12 e12) x13 e13).1, fun x14 e14 => ⟨((((((((h4.2 c6).2 x7 e7).2 x8 e8).2 c10).2 x11 e11).2 x12 e12) x13 e13).2 x14 e14).1, fun x15 e15 => ih.2.2.2.2.2.1 _ _ _ (((((((((h4.2 c6).2 x7 e7).2 x8 e8).2 c10).2 x11 e11).2 x12 e12) x13 e13).2 x14 e14).2 x15 e15) (((((((((i4.2 c6).2 x7 e7).2 x8 e8).2 c10).2 x11 e11).2 x12 e12) x13 e13).2 x14 e14).2 x15 e15)⟩⟩⟩⟩⟩⟩⟩⟩)⟩
    · intro t li lj hQ hR
      have hQ : wbX12_partsMany_5 (wpX12_partsMany k) k t li lj Q := hQ
      have hR : wbX12_partsMany_5 (wpX12_partsMany k) k t li lj R := hR
      show wbX12_partsMany_5 (wpX12_partsMany k) k t li lj (fun r t => Q r t ∧ R r t)
      unfold wbX12_partsMany_5 at hQ hR ⊢
      exact fun x1 e1 => ih.2.2.2.2.1 _ _ _ (hQ x1 e1) (hR x1 e1)
    · intro t li lj hQ hR
      have hQ : wbX12_partsMany_6 (wpX12_partsMany k) k t li lj Q := hQ
      have hR : wbX12_partsMany_6 (wpX12_partsMany k) k t li lj R := hR
      show wbX12_partsMany_6 (wpX12_partsMany k) k t li lj (fun r t => Q r t ∧ R r t)
      unfold wbX12_partsMany_6 at hQ hR ⊢
      exact ⟨fun c1 => ⟨(hQ.1 c1), (hR.1 c1)⟩, fun c2 => wiX12_isThere (hQ.2 c2) (hR.2 c2) (fun y3_0 y3_1 h3 i3 => ⟨fun c4 => ih.2.2.2.2.2.2.2.1 _ _ _ (h3.1 c4) (i3.1 c4), fun c5 => ⟨(h3.2 c5).1, fun x6 e6 => ⟨fun c7 => ih.2.2.2.2.2.2.2.1 _ _ _ (((h3.2 c5).2 x6 e6).1 c7) (((i3.2 c5).2 x6 e6).1 c7), fun c8 => ih.2.2.2.2.2.2.2.2 _ _ _ (((h3.2 c5).2 x6 e6).2 c8) (((i3.2 c5).2 x6 e6).2 c8)⟩⟩⟩)⟩
    · intro t li lj hQ hR
      have hQ : wbX12_partsMany_7 (wpX12_partsMany k) k t li lj Q := hQ
      have hR : wbX12_partsMany_7 (wpX12_partsMany k) k t li lj R := hR
      show wbX12_partsMany_7 (wpX12_partsMany k) k t li lj (fun r t => Q r t ∧ R r t)
      unfold wbX12_partsMany_7 at hQ hR ⊢
      exact ih.2.2.2.2.2.2.2.2 _ _ _ hQ hR
    · intro t li lj hQ hR
      have hQ : wbX12_partsMany_8 (wpX12_partsMany k) k t li lj Q := hQ
      have hR : wbX12_partsMany_8 (wpX12_partsMany k) k t li lj R := hR
      show wbX12_partsMany_8 (wpX12_partsMany k) k t li lj (fun r t => Q r t ∧ R r t)
      unfold wbX12_partsMany_8 at hQ hR ⊢
      exact wiX12_truth hQ hR (fun y1_0 h1 i1 => fun x2 e2 => fun x3 e3 => ih.2.2.2.2.2.2.1 _ _ _ ((h1 x2 e2) x3 e3) ((i1 x2 e2) x3 e3))
theorem wjX12_partsMany {k : Nat} {t : XT}  {Q R : Int32 → XT → Prop} (hQ : wqX12_partsMany k t  Q) (hR : wqX12_partsMany k t  R) : wqX12_partsMany k t  (fun r t => Q r t ∧ R r t) := (wkX12_partsManyj Q R k).1 t _ _ hQ hR
theorem wiX12_partsMany {k : Nat} {t : XT}  {Q R S : Int32 → XT → Prop} (hQ : wqX12_partsMany k t  Q) (hR : wqX12_partsMany k t  R) (f : ∀ r t, Q r t → R r t → S r t) : wqX12_partsMany k t  S := wmX12_partsMany (Nat.le_refl k) (fun r t h => f r t h.1 h.2) (wjX12_partsMany hQ hR)
set_option maxHeartbeats 4000000 in
set_option maxRecDepth 100000 in
theorem wkX12_countj (Q R : Int32 → XT → Prop) : ∀ k : Nat, (∀ (t : XT) (li : Nat → Int32) (lj : Nat → Int64), wpX12_count k 0 t li lj Q → wpX12_count k 0 t li lj R → wpX12_count k 0 t li lj (fun r t => Q r t ∧ R r t)) := by
  intro k
  induction k with
  | zero => exact fun _ _ _ hR _ => False.elim hR
  | succ k ih =>
    intro t li lj hQ hR
    have hQ : wbX12_count_0 (wpX12_count k) k t li lj Q := hQ
    have hR : wbX12_count_0 (wpX12_count k) k t li lj R := hR
    show wbX12_count_0 (wpX12_count k) k t li lj (fun r t => Q r t ∧ R r t)
    unfold wbX12_count_0 at hQ hR ⊢
    exact ⟨fun c1 => ⟨(hQ.1 c1), (hR.1 c1)⟩, fun c2 => ⟨(hQ.2.1 c2), (hR.2.1 c2)⟩, fun c3 => wiX12_thereMany (hQ.2.2.1 c3) (hR.2.2.1 c3) (fun y4_0 y4_1 h4 i4 => ⟨h4, i4⟩), fun c5 => wiX12_greatestDim (hQ.2.2.2.1 c5) (hR.2.2.2.1 c5) (fun y6_0 y6_1 h6 i6 => ⟨h6, i6⟩), fun c7 => wiX12_pairMany (hQ.2.2.2.2.1 c7) (hR.2.2.2.2.1 c7) (fun y8_0 y8_1 h8 i8 => ⟨h8, i8⟩), fun c9 => wiX12_criticalMany (hQ.2.2.2.2.2.1 c9) (hR.2.2.2.2.2.1 c9) (fun y10_0 y10_1 h10 i10 => ⟨h10, i10⟩), fun c11 => wiX12_euler (hQ.2.2.2.2.2.2.1 c11) (hR.2.2.2.2.2.2.1 c11) (fun y12_0 y12_1 h12 i12 => ⟨h12, i12⟩), fun c13 => wiX12_partsMany (hQ.2.2.2.2.2.2.2.1 c13) (hR.2.2.2.2.2.2.2.1 c13) (fun y14_0 y14_1 h14 i14 => ⟨h14, i14⟩), fun c15 => ⟨(hQ.2.2.2.2.2.2.2.2.1 c15), (hR.2.2.2.2.2.2.2.2.1 c15)⟩, fun c16 => ⟨(hQ.2.2.2.2.2.2.2.2.2.1 c16), (hR.2.2.2.2.2.2.2.2.2.1 c16)⟩, fun c17 => ⟨(hQ.2.2.2.2.2.2.2.2.2.2 c17), (hR.2.2.2.2.2.2.2.2.2.2 c17)⟩⟩
theorem wjX12_count {k : Nat} {t : XT} {a1 : Int32} {Q R : Int32 → XT → Prop} (hQ : wqX12_count k t a1 Q) (hR : wqX12_count k t a1 R) : wqX12_count k t a1 (fun r t => Q r t ∧ R r t) := (wkX12_countj Q R k) t _ _ hQ hR
theorem wiX12_count {k : Nat} {t : XT} {a1 : Int32} {Q R S : Int32 → XT → Prop} (hQ : wqX12_count k t a1 Q) (hR : wqX12_count k t a1 R) (f : ∀ r t, Q r t → R r t → S r t) : wqX12_count k t a1 S := wmX12_count (Nat.le_refl k) (fun r t h => f r t h.1 h.2) (wjX12_count hQ hR)
