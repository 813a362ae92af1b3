/-! ===== FACES: the class's bits are the reference's faces ===== -/
theorem hfA_at {x y : Nat} : ∀ l, (hfA l x y = true ↔ ∃ l', l' < l ∧ x.testBit l' = true ∧ y + 2 ^ l' = x) := by
  intro l
  induction l with
  | zero => exact ⟨fun h => absurd h (by unfold hfA; decide), fun ⟨l', h, _⟩ => absurd h (Nat.not_lt_zero l')⟩
  | succ l ih =>
    show ((x.testBit l && Nat.beq (y + 2 ^ l) x) || hfA l x y) = true ↔ _
    rw [Bool.or_eq_true, Bool.and_eq_true, ih]
    refine ⟨fun h => ?_, fun h => ?_⟩
    · rcases h with ⟨a, b⟩ | ⟨l', a, b, c⟩
      · exact ⟨l, by omega, a, Nat.eq_of_beq_eq_true b⟩
      · exact ⟨l', by omega, b, c⟩
    · obtain ⟨l', a, b, c⟩ := h
      by_cases z : l' = l
      · subst z; exact Or.inl ⟨b, by rw [c]; exact Nat.beq_refl x⟩
      · exact Or.inr ⟨l', by omega, b, c⟩
theorem hnc_0 : (List.range 8).all (fun l => (List.range 256).all (fun s => decide (s.testBit l = true → hnc s l + 2 ^ l = s))) = true := by decide +kernel
theorem hnc_at {s l : Nat} (hs : s < 256) (hl : l < 8) (h : s.testBit l = true) : hnc s l + 2 ^ l = s := by
  have a := List.all_eq_true.mp hnc_0 l (List.mem_range.mpr hl)
  have b := List.all_eq_true.mp a s (List.mem_range.mpr hs)
  exact of_decide_eq_true b h
theorem hf_and0 (x : Int32) : x &&& (x ^^^ (-1)) = 0 := by
  apply Int32.toBitVec_inj.mp
  rw [Int32.toBitVec_and, Int32.toBitVec_xor, show (-1 : Int32).toBitVec = BitVec.allOnes 32 from by decide, show (0 : Int32).toBitVec = 0#32 from by decide]
  apply BitVec.eq_of_getLsbD_eq
  intro i hi
  rw [BitVec.getLsbD_and, BitVec.getLsbD_xor, BitVec.getLsbD_allOnes, decide_eq_true hi, BitVec.getLsbD_zero]
  cases x.toBitVec.getLsbD i <;> rfl
theorem hf_and {x y : Nat} (hx : x < 256) (hy : y < 256) : nI y &&& (nI x ^^^ (-1)) = 0 ↔ y &&& x = y := by
  refine ⟨fun h => ?_, fun h => ?_⟩
  · have e : nI y &&& nI x = nI y := by
      have h' : nI y &&& (nI x ^^^ (-1)) ||| (nI y &&& nI x) = nI y &&& nI x := by rw [h]; exact Int32.zero_or
      rw [← h']
      apply Int32.toBitVec_inj.mp
      rw [Int32.toBitVec_or, Int32.toBitVec_and, Int32.toBitVec_and, Int32.toBitVec_xor, show (-1 : Int32).toBitVec = BitVec.allOnes 32 from by decide]
      apply BitVec.eq_of_getLsbD_eq
      intro i hi
      rw [BitVec.getLsbD_or, BitVec.getLsbD_and, BitVec.getLsbD_and, BitVec.getLsbD_xor, BitVec.getLsbD_allOnes, decide_eq_true hi]
      cases (nI y).toBitVec.getLsbD i <;> cases (nI x).toBitVec.getLsbD i <;> rfl
    rw [hq_and] at e
    have l := @Nat.and_le_right y x
    exact (nI_eq (by omega) (by omega)).mp e
  · have e : nI y = nI y &&& nI x := by rw [hq_and, h]
    rw [e, Int32.and_assoc, hf_and0]
    exact Int32.and_zero
theorem hf_iff {x y : Nat} (hx : x < 256) (hy : y < 256) : (hq_Z x = hq_Z y + 1 ∧ nI y &&& (nI x ^^^ (-1)) = 0) ↔ ∃ l, l < 8 ∧ x.testBit l = true ∧ y = hnc x l := by
  have k := hq_allB_at 256 (hq_allB_at 256 hfK x hx) y hy
  have k : hfB x y = hfA 8 x y := eq_of_beq k
  rw [hf_and hx hy, hq_Zpop hx, hq_Zpop hy]
  have b : hfB x y = true ↔ (hq_pop x = hq_pop y + 1 ∧ y &&& x = y) := by
    unfold hfB
    rw [Bool.and_eq_true]
    exact ⟨fun h => ⟨Nat.eq_of_beq_eq_true h.1, Nat.eq_of_beq_eq_true h.2⟩, fun h => ⟨by rw [h.1]; exact Nat.beq_refl _, by rw [h.2]; exact Nat.beq_refl _⟩⟩
  rw [← b, k, hfA_at]
  refine ⟨fun ⟨l, a, c, d⟩ => ⟨l, a, c, ?_⟩, fun ⟨l, a, c, d⟩ => ⟨l, a, c, ?_⟩⟩
  · have := hnc_at hx a c; omega
  · have := hnc_at hx a c; omega
theorem hf_bcZ (x : Nat) : hm_bc (nI x) = nI (hq_Z x) := (hq_Z_at x).2
theorem hf_face {t : XT} {L : Nat → Int32} {c f s : Nat} (hM : hmE t L c) (hL : hnL L c) (hf : f < c) (hs : s < c) : hm_face t f s ↔ hnF L s f := by
  obtain ⟨c60, hD, hR, hO⟩ := hL
  obtain ⟨x, x0, x1, x2, x3, x4⟩ := hR s hs
  obtain ⟨y, y0, y1, y2, y3, y4⟩ := hR f hf
  have dx : hm_dim t s = nI (hq_Z x) - 1 := by unfold hm_dim hm_let; rw [hM.2.1 s hs, x2, hf_bcZ]
  have dy : hm_dim t f = nI (hq_Z y) - 1 := by unfold hm_dim hm_let; rw [hM.2.1 f hf, y2, hf_bcZ]
  have d : hm_dim t s = hm_dim t f + 1 ↔ hq_Z x = hq_Z y + 1 := by
    rw [dx, dy, Int32.sub_add_cancel]
    have e : nI (hq_Z x) - 1 = nI (hq_Z x - 1) := by
      obtain ⟨q, hq⟩ : ∃ q, hq_Z x = q + 1 := ⟨hq_Z x - 1, by omega⟩
      rw [hq, Nat.add_sub_cancel, ← nI_1 q]; exact Int32.add_sub_cancel (nI q) 1
    rw [e]
    refine ⟨fun w => ?_, fun w => ?_⟩
    · have := (nI_eq (by omega) (by omega)).mp w; omega
    · rw [w, Nat.add_sub_cancel]
  have a : hm_let t f &&& (hm_let t s ^^^ (-1)) = nI y &&& (nI x ^^^ (-1)) := by
    unfold hm_let
    rw [hM.2.1 s hs, hM.2.1 f hf, x2, y2]
  unfold hm_face
  rw [d, a, hf_iff x1 y1]
  unfold hnF
  refine ⟨fun ⟨l, h1, h2, h3⟩ => ⟨?_, x, l, x1, h1, x2, h2, by rw [y2, h3]⟩, fun ⟨hlt, x', l, h0, h1, h2, h3, h4⟩ => ?_⟩
  · have z : hq_Z x = hq_Z y + 1 := ((hf_iff x1 y1).mpr ⟨l, h1, h2, h3⟩).1
    refine Nat.lt_of_not_le (fun q => ?_)
    by_cases e : s = f
    · subst e
      have := (nI_eq (by omega) (by omega)).mp (x2.symm.trans y2)
      subst this
      omega
    · have := hO s f x y (by omega) hf x1 y1 x2 y2
      omega
  · have e : x' = x := (nI_eq (by omega) (by omega)).mp (h2.symm.trans x2)
    subst e
    have hy := hnc_at h0 h1 h3
    have hy' : hnc x' l < 256 := (hnc_ne h0 h1 h3).1
    exact ⟨l, h1, h3, (nI_eq (by omega) (by omega)).mp (y2.symm.trans h4)⟩
