/-! ===== what is over a GONE one is GONE: between two of DIM two apart stand two (for simplex, what = 6) ===== -/
def hfu_C (y l l' : Nat) : Bool := if (y.testBit l' && (hnc y l').testBit l) = true then (y.testBit l && decide (hnc y l < 256) && decide (0 < hnc y l) && (hnc y l).testBit l' && decide (hnc (hnc y l) l' = hnc (hnc y l') l) && decide (hnc y l ≠ hnc y l') && decide (hq_Z (hnc y l) < hq_Z y) && decide (hnc y l &&& y = hnc y l) && decide (hq_Z (hnc (hnc y l) l') < hq_Z (hnc y l))) else true
def hfu_B (y l : Nat) : Bool := hq_allB (hfu_C y l) 8
def hfu_A (y : Nat) : Bool := hq_allB (hfu_B y) 8
theorem hfu_K : hq_allB hfu_A 256 = true := by decide +kernel
theorem hfu_at {y l l' : Nat} (hy : y < 256) (hl : l < 8) (hl' : l' < 8) (h1 : y.testBit l' = true) (h2 : (hnc y l').testBit l = true) : y.testBit l = true ∧ hnc y l < 256 ∧ 0 < hnc y l ∧ (hnc y l).testBit l' = true ∧ hnc (hnc y l) l' = hnc (hnc y l') l ∧ hnc y l ≠ hnc y l' ∧ hq_Z (hnc y l) < hq_Z y ∧ hnc y l &&& y = hnc y l ∧ hq_Z (hnc (hnc y l) l') < hq_Z (hnc y l) := by
  have k1 : hfu_A y = true := hq_allB_at 256 hfu_K y hy
  have k2 : hfu_B y l = true := hq_allB_at 8 k1 l hl
  have k3 : hfu_C y l l' = true := hq_allB_at 8 k2 l' hl'
  unfold hfu_C at k3
  rw [if_pos (by rw [h1, h2]; rfl)] at k3
  simp only [Bool.and_eq_true, decide_eq_true_eq] at k3
  obtain ⟨⟨⟨⟨⟨⟨⟨⟨a, b⟩, d⟩, e⟩, f⟩, g⟩, h⟩, i⟩, j⟩ := k3
  exact ⟨a, b, d, e, f, g, h, i, j⟩
theorem hup_two {t : XT} {L : Nat → Int32} {c f s r : Nat} (hM : hmE t L c) (hL : hnL L c) (hG : hq_geo t c) (hr : r < c) (h1 : hnF L s f) (h2 : hnF L r s) : ∃ s', s' < c ∧ s' ≠ s ∧ hnF L s' f ∧ hnF L r s' := by
  obtain ⟨fs, x, l, x256, l8, ex, bx, ef⟩ := h1
  obtain ⟨sr, y, l', y256, l8', ey, by', es⟩ := h2
  have n256 : hnc y l' < 256 := (hnc_ne y256 l8' by').1
  have exy : x = hnc y l' := (nI_eq (by omega) (by omega)).mp (ex.symm.trans es)
  subst exy
  obtain ⟨a1, a2, a3, a4, a5, a6, a7, a8, a9⟩ := hfu_at y256 l8 l8' by' bx
  obtain ⟨s', hs', _, es'⟩ := hG.2.2 r y (hnc y l) hr y256 (by show t.2.2.1 2 r = nI y; rw [hM.2.1 r hr, ey]) a3 a8
  have es' : L s' = nI (hnc y l) := (hM.2.1 s' hs').symm.trans es'
  have ord := hL.2.2.2
  have sr' : s' < r := by
    refine Classical.byContradiction (fun q => ?_)
    by_cases z : r = s'
    · rw [z, es'] at ey
      have := (nI_eq (by omega) (by omega)).mp ey
      rw [this] at a7
      exact Nat.lt_irrefl _ a7
    · have := ord r s' y (hnc y l) (by omega) hs' y256 a2 ey es'
      omega
  have f256 : hnc (hnc y l) l' < 256 := by rw [a5]; exact (hnc_ne x256 l8 bx).1
  have fs' : f < s' := by
    refine Classical.byContradiction (fun q => ?_)
    have ef2 : L f = nI (hnc (hnc y l) l') := by rw [a5]; exact ef
    by_cases z : s' = f
    · rw [z, ef2] at es'
      have := (nI_eq (by omega) (by omega)).mp es'
      rw [this] at a9
      exact Nat.lt_irrefl _ a9
    · have := ord s' f (hnc y l) (hnc (hnc y l) l') (by omega) (by omega) a2 f256 es' ef2
      omega
  refine ⟨s', hs', fun z => ?_, ⟨fs', hnc y l, l', a2, l8', es', a4, by rw [a5]; exact ef⟩, ⟨sr', y, l, y256, l8, ey, a1, es'⟩⟩
  rw [z, es] at es'
  exact a6 ((nI_eq (by omega) (by omega)).mp es').symm
/-- what is over a GONE one is GONE -/
def hUp (L : Nat → Int32) (c : Nat) (G : Nat → Prop) : Prop := ∀ f s, f < c → s < c → hnF L s f → G f → G s
/-- a FREE one and what is over it may go -/
theorem hup_col {t : XT} {L : Nat → Int32} {c f s : Nat} {G : Nat → Prop} (hM : hmE t L c) (hL : hnL L c) (hG : hq_geo t c) (h : hUp L c G) (hs : s < c) (fs : hnF L s f) (gs : ¬ G s) (one : ∀ r, r < c → hnF L r f → ¬ G r → r = s) : hUp L c (fun k => G k ∨ k = f ∨ k = s) := by
  intro a b ha hb ab ga
  rcases ga with q | q | q
  · exact Or.inl (h a b ha hb ab q)
  · subst q
    by_cases z : G b
    · exact Or.inl z
    · exact Or.inr (Or.inr (one b hb ab z))
  · subst q
    refine Classical.byContradiction (fun no => ?_)
    have gb : ¬ G b := fun z => no (Or.inl z)
    obtain ⟨s', hs', ne, f1, f2⟩ := hup_two hM hL hG hb fs ab
    have gs' : G s' := Classical.byContradiction (fun z => ne (one s' hs' f1 z))
    exact gb (h s' b hs' hb f2 gs')
