/-! ===== the reference: a run that comes to Q ends where Q holds ===== -/
set_option maxHeartbeats 4000000 in
set_option maxRecDepth 100000 in
theorem wvX12_truthx (Q : Int32 → Prop) : ∀ k : Nat, (∀ (li : Nat → Int32) (lj : Nat → Int64), wpX12_truth k 0 li lj Q → ∃ r, Q r) := by
  intro k
  induction k with
  | zero => exact fun _ _ h => False.elim h
  | succ k ih =>
    intro li lj h
    have h : wbX12_truth_0 (wpX12_truth k) k li lj Q := h
    unfold wbX12_truth_0 at h
    exact Classical.byCases (fun c1 => ⟨_, (h.1 c1)⟩) (fun c1 => ⟨_, (h.2 c1)⟩)
theorem wxX12_truth {k : Nat} {a0 : Int32} {Q : Int32 → Prop} (h : wqX12_truth k a0 Q) : ∃ r, Q r := (wvX12_truthx Q k) _ _ h
set_option maxHeartbeats 4000000 in
set_option maxRecDepth 100000 in
theorem wvJ6_bitCount_0f7a4x (Q : Int32 → Prop) : ∀ k : Nat, (∀ (li : Nat → Int32) (lj : Nat → Int64), wpJ6_bitCount_0f7a4 k 0 li lj Q → ∃ r, Q r) := by
  intro k
  induction k with
  | zero => exact fun _ _ h => False.elim h
  | succ k ih =>
    intro li lj h
    have h : wbJ6_bitCount_0f7a4_0 (wpJ6_bitCount_0f7a4 k) k li lj Q := h
    unfold wbJ6_bitCount_0f7a4_0 at h
    exact ⟨_, (((((((((((((((h _ rfl) _ rfl) _ rfl) _ rfl) _ rfl) _ rfl) _ rfl) _ rfl) _ rfl) _ rfl) _ rfl) _ rfl) _ rfl) _ rfl) _ rfl)⟩
theorem wxJ6_bitCount_0f7a4 {k : Nat} {a0 : Int32} {Q : Int32 → Prop} (h : wqJ6_bitCount_0f7a4 k a0 Q) : ∃ r, Q r := (wvJ6_bitCount_0f7a4x Q k) _ _ h
set_option maxHeartbeats 4000000 in
set_option maxRecDepth 100000 in
theorem wvX12_dimOfx (Q : Int32 → XT → Prop) : ∀ k : Nat, (∀ (t : XT) (li : Nat → Int32) (lj : Nat → Int64), wpX12_dimOf k 0 t li lj Q → ∃ r t, Q r t) := by
  intro k
  induction k with
  | zero => exact fun _ _ _ h => False.elim h
  | succ k ih =>
    intro t li lj h
    have h : wbX12_dimOf_0 (wpX12_dimOf k) k t li lj Q := h
    unfold wbX12_dimOf_0 at h
    exact Exists.elim (wxJ6_bitCount_0f7a4 (h.2 _ rfl)) (fun _ h1 => ⟨_, _, (h1 _ rfl)⟩)
theorem wxX12_dimOf {k : Nat} {t : XT} {a1 : Int32} {Q : Int32 → XT → Prop} (h : wqX12_dimOf k t a1 Q) : ∃ r t, Q r t := (wvX12_dimOfx Q k) t _ _ h
set_option maxHeartbeats 4000000 in
set_option maxRecDepth 100000 in
theorem wvX12_isFacex (Q : Int32 → XT → Prop) : ∀ k : Nat, (∀ (t : XT) (li : Nat → Int32) (lj : Nat → Int64), wpX12_isFace k 0 t li lj Q → ∃ r t, Q r t) ∧ (∀ (t : XT) (li : Nat → Int32) (lj : Nat → Int64), wpX12_isFace k 1 t li lj Q → ∃ r t, Q r t) := by
  intro k
  induction k with
  | zero => exact ⟨fun _ _ _ h => False.elim h, fun _ _ _ h => False.elim h⟩
  | succ k ih =>
    refine ⟨?_, ?_⟩
    · intro t li lj h
      have h : wbX12_isFace_0 (wpX12_isFace k) k t li lj Q := h
      unfold wbX12_isFace_0 at h
      exact Exists.elim (wxX12_dimOf h) (fun _ w1 => Exists.elim w1 (fun _ h1 => Exists.elim (wxX12_dimOf h1) (fun _ w2 => Exists.elim w2 (fun _ h2 => Classical.byCases (fun c3 => Classical.byCases (fun c4 => ⟨_, _, (((((((h2 _ rfl).2 c3).2 _ rfl).2 _ rfl) _ rfl) _ rfl).2 c4)⟩) (fun c4 => ih.2 _ _ _ (((((((h2 _ rfl).2 c3).2 _ rfl).2 _ rfl) _ rfl) _ rfl).1 c4))) (fun c3 => ih.2 _ _ _ ((h2 _ rfl).1 c3))))))
    · intro t li lj h
      have h : wbX12_isFace_1 (wpX12_isFace k) k t li lj Q := h
      unfold wbX12_isFace_1 at h
      exact ⟨_, _, h⟩
theorem wxX12_isFace {k : Nat} {t : XT} {a1 : Int32} {a2 : Int32} {Q : Int32 → XT → Prop} (h : wqX12_isFace k t a1 a2 Q) : ∃ r t, Q r t := (wvX12_isFacex Q k).1 t _ _ h
set_option maxHeartbeats 4000000 in
set_option maxRecDepth 100000 in
theorem wvX12_isFaceTherex (Q : Int32 → XT → Prop) : ∀ k : Nat, (∀ (t : XT) (li : Nat → Int32) (lj : Nat → Int64), wpX12_isFaceThere k 0 t li lj Q → ∃ r t, Q r t) ∧ (∀ (t : XT) (li : Nat → Int32) (lj : Nat → Int64), wpX12_isFaceThere k 1 t li lj Q → ∃ r t, Q r t) := by
  intro k
  induction k with
  | zero => exact ⟨fun _ _ _ h => False.elim h, fun _ _ _ h => False.elim h⟩
  | succ k ih =>
    refine ⟨?_, ?_⟩
    · intro t li lj h
      have h : wbX12_isFaceThere_0 (wpX12_isFaceThere k) k t li lj Q := h
      unfold wbX12_isFaceThere_0 at h
      exact Classical.byCases (fun c1 => Classical.byCases (fun c2 => Exists.elim (wxX12_isFace ((((h.2 _ rfl).2 c1).2 _ rfl).2 c2)) (fun _ w3 => Exists.elim w3 (fun _ h3 => Classical.byCases (fun c4 => ih.2 _ _ _ (h3.1 c4)) (fun c4 => ⟨_, _, (h3.2 c4)⟩)))) (fun c2 => ih.2 _ _ _ ((((h.2 _ rfl).2 c1).2 _ rfl).1 c2))) (fun c1 => ih.2 _ _ _ ((h.2 _ rfl).1 c1))
    · intro t li lj h
      have h : wbX12_isFaceThere_1 (wpX12_isFaceThere k) k t li lj Q := h
      unfold wbX12_isFaceThere_1 at h
      exact ⟨_, _, h⟩
theorem wxX12_isFaceThere {k : Nat} {t : XT} {a1 : Int32} {a2 : Int32} {Q : Int32 → XT → Prop} (h : wqX12_isFaceThere k t a1 a2 Q) : ∃ r t, Q r t := (wvX12_isFaceTherex Q k).1 t _ _ h
set_option maxHeartbeats 4000000 in
set_option maxRecDepth 100000 in
theorem wvX12_signOfx (Q : Int32 → XT → Prop) : ∀ k : Nat, (∀ (t : XT) (li : Nat → Int32) (lj : Nat → Int64), wpX12_signOf k 0 t li lj Q → ∃ r t, Q r t) := by
  intro k
  induction k with
  | zero => exact fun _ _ _ h => False.elim h
  | succ k ih =>
    intro t li lj h
    have h : wbX12_signOf_0 (wpX12_signOf k) k t li lj Q := h
    unfold wbX12_signOf_0 at h
    exact Exists.elim (wxJ6_bitCount_0f7a4 (((((((h.2 _ rfl).2 _ rfl) _ rfl) _ rfl).2 _ rfl) _ rfl) _ rfl)) (fun _ h1 => Classical.byCases (fun c2 => ⟨_, _, ((h1.2 _ rfl).2 c2)⟩) (fun c2 => ⟨_, _, ((h1.2 _ rfl).1 c2)⟩))
theorem wxX12_signOf {k : Nat} {t : XT} {a1 : Int32} {a2 : Int32} {Q : Int32 → XT → Prop} (h : wqX12_signOf k t a1 a2 Q) : ∃ r t, Q r t := (wvX12_signOfx Q k) t _ _ h
set_option maxHeartbeats 4000000 in
set_option maxRecDepth 100000 in
theorem wvX12_laysWayx (Q : Int32 → XT → Prop) : ∀ k : Nat, (∀ (t : XT) (li : Nat → Int32) (lj : Nat → Int64), wpX12_laysWay k 0 t li lj Q → ∃ r t, Q r t) ∧ (∀ (t : XT) (li : Nat → Int32) (lj : Nat → Int64), wpX12_laysWay k 1 t li lj Q → ∃ r t, Q r t) ∧ (∀ (t : XT) (li : Nat → Int32) (lj : Nat → Int64), wpX12_laysWay k 2 t li lj Q → ∃ r t, Q r t) := by
  intro k
  induction k with
  | zero => exact ⟨fun _ _ _ h => False.elim h, fun _ _ _ h => False.elim h, fun _ _ _ h => False.elim h⟩
  | succ k ih =>
    refine ⟨?_, ?_, ?_⟩
    · intro t li lj h
      have h : wbX12_laysWay_0 (wpX12_laysWay k) k t li lj Q := h
      unfold wbX12_laysWay_0 at h
      exact ih.2.1 _ _ _ (h.2 _ rfl)
    · intro t li lj h
      have h : wbX12_laysWay_1 (wpX12_laysWay k) k t li lj Q := h
      unfold wbX12_laysWay_1 at h
      exact Classical.byCases (fun c1 => Exists.elim (wxX12_signOf ((h.1 c1).2 _ rfl)) (fun _ w2 => Exists.elim w2 (fun _ h2 => ⟨_, _, ((((h2 _ rfl) _ rfl) _ rfl).2 _ rfl)⟩))) (fun c1 => Classical.byCases (fun c3 => ih.2.2 _ _ _ ((h.2 c1).1 c3)) (fun c3 => Exists.elim (wxX12_isFaceThere ((h.2 c1).2 c3)) (fun _ w4 => Exists.elim w4 (fun _ h4 => Classical.byCases (fun c5 => ih.2.2 _ _ _ (h4.2 c5)) (fun c5 => Classical.byCases (fun c6 => ⟨_, _, ((((h4.1 c5).2 _ rfl) _ rfl).2 c6)⟩) (fun c6 => Exists.elim (wxX12_signOf ((((((h4.1 c5).2 _ rfl) _ rfl).1 c6).2 _ rfl) _ rfl)) (fun _ w7 => Exists.elim w7 (fun _ h7 => ih.2.2 _ _ _ ((((h7 _ rfl).2 _ rfl) _ rfl) _ rfl)))))))))
    · intro t li lj h
      have h : wbX12_laysWay_2 (wpX12_laysWay k) k t li lj Q := h
      unfold wbX12_laysWay_2 at h
      exact ih.2.1 _ _ _ (h _ rfl)
theorem wxX12_laysWay {k : Nat} {t : XT} {a1 : Int32} {Q : Int32 → XT → Prop} (h : wqX12_laysWay k t a1 Q) : ∃ r t, Q r t := (wvX12_laysWayx Q k).1 t _ _ h
set_option maxHeartbeats 4000000 in
set_option maxRecDepth 100000 in
theorem wvX12_isLowerx (Q : Int32 → XT → Prop) : ∀ k : Nat, (∀ (t : XT) (li : Nat → Int32) (lj : Nat → Int64), wpX12_isLower k 0 t li lj Q → ∃ r t, Q r t) ∧ (∀ (t : XT) (li : Nat → Int32) (lj : Nat → Int64), wpX12_isLower k 1 t li lj Q → ∃ r t, Q r t) := by
  intro k
  induction k with
  | zero => exact ⟨fun _ _ _ h => False.elim h, fun _ _ _ h => False.elim h⟩
  | succ k ih =>
    refine ⟨?_, ?_⟩
    · intro t li lj h
      have h : wbX12_isLower_0 (wpX12_isLower k) k t li lj Q := h
      unfold wbX12_isLower_0 at h
      exact Classical.byCases (fun c1 => ih.2 _ _ _ ((h.2 _ rfl).1 c1)) (fun c1 => Classical.byCases (fun c2 => ih.2 _ _ _ ((((h.2 _ rfl).2 c1).2 _ rfl).1 c2)) (fun c2 => ⟨_, _, ((((h.2 _ rfl).2 c1).2 _ rfl).2 c2)⟩))
    · intro t li lj h
      have h : wbX12_isLower_1 (wpX12_isLower k) k t li lj Q := h
      unfold wbX12_isLower_1 at h
      exact ⟨_, _, h⟩
theorem wxX12_isLower {k : Nat} {t : XT} {a1 : Int32} {Q : Int32 → XT → Prop} (h : wqX12_isLower k t a1 Q) : ∃ r t, Q r t := (wvX12_isLowerx Q k).1 t _ _ h
set_option maxHeartbeats 4000000 in
set_option maxRecDepth 100000 in
theorem wvX12_inx (Q : Int32 → Prop) : ∀ k : Nat, (∀ (li : Nat → Int32) (lj : Nat → Int64), wpX12_in k 0 li lj Q → ∃ r, Q r) ∧ (∀ (li : Nat → Int32) (lj : Nat → Int64), wpX12_in k 1 li lj Q → ∃ r, Q r) := by
  intro k
  induction k with
  | zero => exact ⟨fun _ _ h => False.elim h, fun _ _ h => False.elim h⟩
  | succ k ih =>
    refine ⟨?_, ?_⟩
    · intro li lj h
      have h : wbX12_in_0 (wpX12_in k) k li lj Q := h
      unfold wbX12_in_0 at h
      exact Classical.byCases (fun c1 => ih.2 _ _ (h.1 c1)) (fun c1 => Classical.byCases (fun c2 => ih.2 _ _ ((h.2 c1).1 c2)) (fun c2 => ⟨_, ((h.2 c1).2 c2)⟩))
    · intro li lj h
      have h : wbX12_in_1 (wpX12_in k) k li lj Q := h
      unfold wbX12_in_1 at h
      exact ⟨_, h⟩
theorem wxX12_in {k : Nat} {a0 : Int32} {a1 : Int32} {a2 : Int32} {Q : Int32 → Prop} (h : wqX12_in k a0 a1 a2 Q) : ∃ r, Q r := (wvX12_inx Q k).1 _ _ h
set_option maxHeartbeats 4000000 in
set_option maxRecDepth 100000 in
theorem wvX12_isSimplexx (Q : Int32 → XT → Prop) : ∀ k : Nat, (∀ (t : XT) (li : Nat → Int32) (lj : Nat → Int64), wpX12_isSimplex k 0 t li lj Q → ∃ r t, Q r t) := by
  intro k
  induction k with
  | zero => exact fun _ _ _ h => False.elim h
  | succ k ih =>
    intro t li lj h
    have h : wbX12_isSimplex_0 (wpX12_isSimplex k) k t li lj Q := h
    unfold wbX12_isSimplex_0 at h
    exact Exists.elim (wxX12_in (h _ rfl)) (fun _ h1 => ⟨_, _, h1.2⟩)
theorem wxX12_isSimplex {k : Nat} {t : XT} {a1 : Int32} {Q : Int32 → XT → Prop} (h : wqX12_isSimplex k t a1 Q) : ∃ r t, Q r t := (wvX12_isSimplexx Q k) t _ _ h
set_option maxHeartbeats 4000000 in
set_option maxRecDepth 100000 in
theorem wvX12_isTherex (Q : Int32 → XT → Prop) : ∀ k : Nat, (∀ (t : XT) (li : Nat → Int32) (lj : Nat → Int64), wpX12_isThere k 0 t li lj Q → ∃ r t, Q r t) ∧ (∀ (t : XT) (li : Nat → Int32) (lj : Nat → Int64), wpX12_isThere k 1 t li lj Q → ∃ r t, Q r t) := by
  intro k
  induction k with
  | zero => exact ⟨fun _ _ _ h => False.elim h, fun _ _ _ h => False.elim h⟩
  | succ k ih =>
    refine ⟨?_, ?_⟩
    · intro t li lj h
      have h : wbX12_isThere_0 (wpX12_isThere k) k t li lj Q := h
      unfold wbX12_isThere_0 at h
      exact Exists.elim (wxX12_isSimplex h) (fun _ w1 => Exists.elim w1 (fun _ h1 => Classical.byCases (fun c2 => ih.2 _ _ _ (h1.1 c2)) (fun c2 => Classical.byCases (fun c3 => ⟨_, _, (((h1.2 c2).2 _ rfl).2 c3)⟩) (fun c3 => ih.2 _ _ _ (((h1.2 c2).2 _ rfl).1 c3)))))
    · intro t li lj h
      have h : wbX12_isThere_1 (wpX12_isThere k) k t li lj Q := h
      unfold wbX12_isThere_1 at h
      exact ⟨_, _, h⟩
theorem wxX12_isThere {k : Nat} {t : XT} {a1 : Int32} {Q : Int32 → XT → Prop} (h : wqX12_isThere k t a1 Q) : ∃ r t, Q r t := (wvX12_isTherex Q k).1 t _ _ h
set_option maxHeartbeats 4000000 in
set_option maxRecDepth 100000 in
theorem wvX12_laysWaysx (Q : XT → Prop) : ∀ k : Nat, (∀ (t : XT) (li : Nat → Int32) (lj : Nat → Int64), wpX12_laysWays k 0 t li lj Q → ∃ t, Q t) ∧ (∀ (t : XT) (li : Nat → Int32) (lj : Nat → Int64), wpX12_laysWays k 1 t li lj Q → ∃ t, Q t) ∧ (∀ (t : XT) (li : Nat → Int32) (lj : Nat → Int64), wpX12_laysWays k 2 t li lj Q → ∃ t, Q t) ∧ (∀ (t : XT) (li : Nat → Int32) (lj : Nat → Int64), wpX12_laysWays k 3 t li lj Q → ∃ t, Q t) ∧ (∀ (t : XT) (li : Nat → Int32) (lj : Nat → Int64), wpX12_laysWays k 4 t li lj Q → ∃ t, Q t) ∧ (∀ (t : XT) (li : Nat → Int32) (lj : Nat → Int64), wpX12_laysWays k 5 t li lj Q → ∃ t, Q t) ∧ (∀ (t : XT) (li : Nat → Int32) (lj : Nat → Int64), wpX12_laysWays k 6 t li lj Q → ∃ t, Q t) ∧ (∀ (t : XT) (li : Nat → Int32) (lj : Nat → Int64), wpX12_laysWays k 7 t li lj Q → ∃ t, Q t) ∧ (∀ (t : XT) (li : Nat → Int32) (lj : Nat → Int64), wpX12_laysWays k 8 t li lj Q → ∃ t, Q t) ∧ (∀ (t : XT) (li : Nat → Int32) (lj : Nat → Int64), wpX12_laysWays k 9 t li lj Q → ∃ t, Q t) ∧ (∀ (t : XT) (li : Nat → Int32) (lj : Nat → Int64), wpX12_laysWays k 10 t li lj Q → ∃ t, Q t) ∧ (∀ (t : XT) (li : Nat → Int32) (lj : Nat → Int64), wpX12_laysWays k 11 t li lj Q → ∃ t, Q t) := by
  intro k
  induction k with
  | zero => exact ⟨fun _ _ _ h => False.elim h, fun _ _ _ h => False.elim h, fun _ _ _ h => False.elim h, fun _ _ _ h => False.elim h, fun _ _ _ h => False.elim h, fun _ _ _ h => False.elim h, fun _ _ _ h => False.elim h, fun _ _ _ h => False.elim h, fun _ _ _ h => False.elim h, fun _ _ _ h => False.elim h, fun _ _ _ h => False.elim h, fun _ _ _ h => False.elim h⟩
  | succ k ih =>
    refine ⟨?_, ?_, ?_, ?_, ?_, ?_, ?_, ?_, ?_, ?_, ?_, ?_⟩
    · intro t li lj h
      have h : wbX12_laysWays_0 (wpX12_laysWays k) k t li lj Q := h
      unfold wbX12_laysWays_0 at h
      exact ih.2.1 _ _ _ h
    · intro t li lj h
      have h : wbX12_laysWays_1 (wpX12_laysWays k) k t li lj Q := h
      unfold wbX12_laysWays_1 at h
      exact Classical.byCases (fun c1 => ih.2.2.2.2.2.2.2.1 _ _ _ (h.1 c1)) (fun c1 => Exists.elim (wxX12_isThere (h.2 c1)) (fun _ w2 => Exists.elim w2 (fun _ h2 => Classical.byCases (fun c3 => ih.2.2.1 _ _ _ (h2.1 c3)) (fun c3 => Classical.byCases (fun c4 => ih.2.2.1 _ _ _ ((h2.2 c3).1 c4)) (fun c4 => Exists.elim (wxX12_isLower ((h2.2 c3).2 c4)) (fun _ w5 => Exists.elim w5 (fun _ h5 => Classical.byCases (fun c6 => ih.2.2.1 _ _ _ (h5.1 c6)) (fun c6 => Exists.elim (wxX12_dimOf (h5.2 c6)) (fun _ w7 => Exists.elim w7 (fun _ h7 => Exists.elim (wxX12_dimOf h7) (fun _ w8 => Exists.elim w8 (fun _ h8 => Classical.byCases (fun c9 => ih.2.2.2.1 _ _ _ (h8.2 c9)) (fun c9 => ih.2.2.1 _ _ _ (h8.1 c9))))))))))))))
    · intro t li lj h
      have h : wbX12_laysWays_2 (wpX12_laysWays k) k t li lj Q := h
      unfold wbX12_laysWays_2 at h
      exact ih.2.2.2.1 _ _ _ h
    · intro t li lj h
      have h : wbX12_laysWays_3 (wpX12_laysWays k) k t li lj Q := h
      unfold wbX12_laysWays_3 at h
      exact Classical.byCases (fun c1 => Classical.byCases (fun c2 => ih.2.2.2.2.1 _ _ _ ((h.1 c1).2 c2)) (fun c2 => ih.2.2.2.2.1 _ _ _ ((h.1 c1).1 c2))) (fun c1 => ih.2.2.2.2.2.1 _ _ _ (h.2 c1))
    · intro t li lj h
      have h : wbX12_laysWays_4 (wpX12_laysWays k) k t li lj Q := h
      unfold wbX12_laysWays_4 at h
      exact Exists.elim (wxX12_truth h) (fun _ h1 => ih.2.2.2.2.2.1 _ _ _ (h1 _ rfl))
    · intro t li lj h
      have h : wbX12_laysWays_5 (wpX12_laysWays k) k t li lj Q := h
      unfold wbX12_laysWays_5 at h
      exact Classical.byCases (fun c1 => ih.2.2.2.2.2.2.1 _ _ _ ((h.2 _ rfl).2 c1)) (fun c1 => ih.2.2.2.2.2.2.1 _ _ _ ((h.2 _ rfl).1 c1))
    · intro t li lj h
      have h : wbX12_laysWays_6 (wpX12_laysWays k) k t li lj Q := h
      unfold wbX12_laysWays_6 at h
      exact Exists.elim (wxX12_truth h) (fun _ h1 => ih.2.1 _ _ _ (((h1 _ rfl).2 _ rfl) _ rfl))
    · intro t li lj h
      have h : wbX12_laysWays_7 (wpX12_laysWays k) k t li lj Q := h
      unfold wbX12_laysWays_7 at h
      exact Classical.byCases (fun c1 => ⟨_, (h.1 c1)⟩) (fun c1 => ih.2.2.2.2.2.2.2.2.1 _ _ _ (h.2 c1))
    · intro t li lj h
      have h : wbX12_laysWays_8 (wpX12_laysWays k) k t li lj Q := h
      unfold wbX12_laysWays_8 at h
      exact Classical.byCases (fun c1 => ih.2.2.2.2.2.2.2.1 _ _ _ (h.1 c1)) (fun c1 => Classical.byCases (fun c2 => Exists.elim (wxX12_laysWay ((((h.2 c1).2 _ rfl) _ rfl).2 c2)) (fun _ w3 => Exists.elim w3 (fun _ h3 => Classical.byCases (fun c4 => Classical.byCases (fun c5 => ih.2.2.2.2.2.2.2.2.2.2.1 _ _ _ ((h3.2 c4).1 c5)) (fun c5 => ih.2.2.2.2.2.2.2.2.2.1 _ _ _ ((h3.2 c4).2 c5))) (fun c4 => ih.2.2.2.2.2.2.2.2.2.1 _ _ _ (h3.1 c4))))) (fun c2 => ih.2.2.2.2.2.2.2.2.2.2.2 _ _ _ ((((h.2 c1).2 _ rfl) _ rfl).1 c2)))
    · intro t li lj h
      have h : wbX12_laysWays_9 (wpX12_laysWays k) k t li lj Q := h
      unfold wbX12_laysWays_9 at h
      exact ih.2.2.2.2.2.2.2.2.2.2.1 _ _ _ h
    · intro t li lj h
      have h : wbX12_laysWays_10 (wpX12_laysWays k) k t li lj Q := h
      unfold wbX12_laysWays_10 at h
      exact ih.2.2.2.2.2.2.2.2.2.2.2 _ _ _ h
    · intro t li lj h
      have h : wbX12_laysWays_11 (wpX12_laysWays k) k t li lj Q := h
      unfold wbX12_laysWays_11 at h
      exact ih.2.2.2.2.2.2.2.2.1 _ _ _ (h _ rfl)
theorem wxX12_laysWays {k : Nat} {t : XT} {a1 : Int32} {Q : XT → Prop} (h : wqX12_laysWays k t a1 Q) : ∃ t, Q t := (wvX12_laysWaysx Q k).1 t _ _ h
set_option maxHeartbeats 4000000 in
set_option maxRecDepth 100000 in
theorem wvX12_waysFromx (Q : Int64 → XT → Prop) : ∀ k : Nat, (∀ (t : XT) (li : Nat → Int32) (lj : Nat → Int64), wpX12_waysFrom k 0 t li lj Q → ∃ r t, Q r t) ∧ (∀ (t : XT) (li : Nat → Int32) (lj : Nat → Int64), wpX12_waysFrom k 1 t li lj Q → ∃ r t, Q r t) ∧ (∀ (t : XT) (li : Nat → Int32) (lj : Nat → Int64), wpX12_waysFrom k 2 t li lj Q → ∃ r t, Q r t) := by
  intro k
  induction k with
  | zero => exact ⟨fun _ _ _ h => False.elim h, fun _ _ _ h => False.elim h, fun _ _ _ h => False.elim h⟩
  | succ k ih =>
    refine ⟨?_, ?_, ?_⟩
    · intro t li lj h
      have h : wbX12_waysFrom_0 (wpX12_waysFrom k) k t li lj Q := h
      unfold wbX12_waysFrom_0 at h
      exact Exists.elim (wxX12_laysWays h) (fun _ h1 => ih.2.1 _ _ _ h1)
    · intro t li lj h
      have h : wbX12_waysFrom_1 (wpX12_waysFrom k) k t li lj Q := h
      unfold wbX12_waysFrom_1 at h
      exact Classical.byCases (fun c1 => ⟨_, _, (h.1 c1)⟩) (fun c1 => Exists.elim (wxX12_isFaceThere (h.2 c1)) (fun _ w2 => Exists.elim w2 (fun _ h2 => Classical.byCases (fun c3 => ih.2.2 _ _ _ (h2.1 c3)) (fun c3 => ih.2.2 _ _ _ ((h2.2 c3).2 _ rfl)))))
    · intro t li lj h
      have h : wbX12_waysFrom_2 (wpX12_waysFrom k) k t li lj Q := h
      unfold wbX12_waysFrom_2 at h
      exact ih.2.1 _ _ _ ((h _ rfl) _ rfl)
theorem wxX12_waysFrom {k : Nat} {t : XT} {a1 : Int32} {a2 : Int32} {Q : Int64 → XT → Prop} (h : wqX12_waysFrom k t a1 a2 Q) : ∃ r t, Q r t := (wvX12_waysFromx Q k).1 t _ _ h
set_option maxHeartbeats 4000000 in
set_option maxRecDepth 100000 in
theorem wvX12_incidenceOfx (Q : Int64 → XT → Prop) : ∀ k : Nat, (∀ (t : XT) (li : Nat → Int32) (lj : Nat → Int64), wpX12_incidenceOf k 0 t li lj Q → ∃ r t, Q r t) ∧ (∀ (t : XT) (li : Nat → Int32) (lj : Nat → Int64), wpX12_incidenceOf k 1 t li lj Q → ∃ r t, Q r t) ∧ (∀ (t : XT) (li : Nat → Int32) (lj : Nat → Int64), wpX12_incidenceOf k 2 t li lj Q → ∃ r t, Q r t) := by
  intro k
  induction k with
  | zero => exact ⟨fun _ _ _ h => False.elim h, fun _ _ _ h => False.elim h, fun _ _ _ h => False.elim h⟩
  | succ k ih =>
    refine ⟨?_, ?_, ?_⟩
    · intro t li lj h
      have h : wbX12_incidenceOf_0 (wpX12_incidenceOf k) k t li lj Q := h
      unfold wbX12_incidenceOf_0 at h
      exact Exists.elim (wxX12_laysWays h) (fun _ h1 => ih.2.1 _ _ _ h1)
    · intro t li lj h
      have h : wbX12_incidenceOf_1 (wpX12_incidenceOf k) k t li lj Q := h
      unfold wbX12_incidenceOf_1 at h
      exact Classical.byCases (fun c1 => ⟨_, _, (h.1 c1)⟩) (fun c1 => Exists.elim (wxX12_isFaceThere (h.2 c1)) (fun _ w2 => Exists.elim w2 (fun _ h2 => Classical.byCases (fun c3 => ih.2.2 _ _ _ (h2.1 c3)) (fun c3 => Exists.elim (wxX12_signOf (h2.2 c3)) (fun _ w4 => Exists.elim w4 (fun _ h4 => ih.2.2 _ _ _ (((h4 _ rfl).2 _ rfl) _ rfl)))))))
    · intro t li lj h
      have h : wbX12_incidenceOf_2 (wpX12_incidenceOf k) k t li lj Q := h
      unfold wbX12_incidenceOf_2 at h
      exact ih.2.1 _ _ _ ((h _ rfl) _ rfl)
theorem wxX12_incidenceOf {k : Nat} {t : XT} {a1 : Int32} {a2 : Int32} {Q : Int64 → XT → Prop} (h : wqX12_incidenceOf k t a1 a2 Q) : ∃ r t, Q r t := (wvX12_incidenceOfx Q k).1 t _ _ h
