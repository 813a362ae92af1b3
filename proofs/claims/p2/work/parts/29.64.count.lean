/-! ===== counts: the class's bits, the reference's sums ===== -/
theorem hct_nb : ∀ (a n : Nat), nb (a + 1) n = nb a n + (if n.testBit a = true then 1 else 0) := by
  intro a n
  rw [nb_add a 1 n]
  show nb a n + (n / 2 ^ a % 2 + 0) = _
  have e : n.testBit a = decide (n / 2 ^ a % 2 = 1) := Nat.testBit_eq_decide_div_mod_eq
  by_cases z : n / 2 ^ a % 2 = 1
  · rw [if_pos (by rw [e]; exact decide_eq_true z), z]
  · rw [if_neg (by rw [e]; exact fun w => z (of_decide_eq_true w))]
    have := Nat.mod_lt (n / 2 ^ a) (show 0 < 2 by decide)
    omega
theorem hct_le : ∀ (a n : Nat), nb a n ≤ a := by
  intro a
  induction a with
  | zero => exact fun n => Nat.le_refl 0
  | succ a ih =>
    intro n
    rw [hct_nb]
    have := ih n
    by_cases z : n.testBit a = true
    · rw [if_pos z]; omega
    · rw [if_neg z]; omega
theorem hct_go {v : Int64} {c : Nat} {p : Nat → Prop} (h : ∀ k, hb v k = true ↔ (k < c ∧ p k)) : ∀ a, a ≤ c → nI (nb a (un v)) = hm_cnt (fun k => hm_ind (p k)) a := by
  intro a
  induction a with
  | zero => exact fun _ => rfl
  | succ a ih =>
    intro ha
    rw [hct_nb]
    show _ = hm_cnt (fun k => hm_ind (p k)) a + hm_ind (p a)
    rw [← ih (by omega)]
    have e : (un v).testBit a = true ↔ p a := (h a).trans ⟨fun w => w.2, fun w => ⟨by omega, w⟩⟩
    by_cases z : p a
    · rw [if_pos (e.mpr z), hm_ind1 z]; exact (nI_1 _).symm
    · rw [if_neg (fun w => z (e.mp w)), hm_ind0 z]; exact (Int32.add_zero _).symm
theorem hct_out {v : Int64} {c : Nat} {p : Nat → Prop} (h : ∀ k, hb v k = true ↔ (k < c ∧ p k)) : ∀ d, nb (c + d) (un v) = nb c (un v) := by
  intro d
  induction d with
  | zero => rfl
  | succ d ih =>
    show nb (c + d + 1) (un v) = _
    have no : ¬ (un v).testBit (c + d) = true := fun w => absurd ((h (c + d)).mp w).1 (by omega)
    rw [hct_nb, ih, if_neg no]; exact Nat.add_zero _
theorem hct {v : Int64} {c : Nat} {p : Nat → Prop} (h : ∀ k, hb v k = true ↔ (k < c ∧ p k)) (hc : c ≤ 64) : nI (nb 64 (un v)) = hm_cnt (fun k => hm_ind (p k)) c := by
  have e := hct_out h (64 - c)
  rw [show c + (64 - c) = 64 by omega] at e
  rw [e]; exact hct_go h c (Nat.le_refl c)
theorem hct_eq {c : Nat} {p q : Nat → Prop} (h : ∀ k, k < c → (p k ↔ q k)) : ∀ a, a ≤ c → hm_cnt (fun k => hm_ind (p k)) a = hm_cnt (fun k => hm_ind (q k)) a := by
  intro a
  induction a with
  | zero => exact fun _ => rfl
  | succ a ih =>
    intro ha
    show hm_cnt (fun k => hm_ind (p k)) a + hm_ind (p a) = hm_cnt (fun k => hm_ind (q k)) a + hm_ind (q a)
    rw [ih (by omega)]
    by_cases z : p a
    · rw [hm_ind1 z, hm_ind1 ((h a (by omega)).mp z)]
    · rw [hm_ind0 z, hm_ind0 (fun w => z ((h a (by omega)).mpr w))]
/-- CRITICAL ones, in the class's bits -/
theorem hpx_unpaired {t : XT} {c K : Nat} {P : Nat → Int32} {G : Nat → Prop} {Q : Int64 → XT → Prop} (h : hpX t c P G) (hc : c ≤ 60) (hK : 1 ≤ K) (hQ : ∀ v, (∀ k, hb v k = true ↔ (k < c ∧ (¬ G k ∧ P k = -1))) → Q v t) : wqX6_unpaired K t Q := by
  obtain ⟨K, rfl⟩ : ∃ K', K = K' + 1 := ⟨K - 1, by omega⟩
  obtain ⟨a1, a2, a3, a4, a5⟩ := h
  intro v1 e1 v2 e2 v3 e3
  refine hQ v3 (fun k => ?_)
  rw [e3, e2, e1]
  by_cases k64 : k < 64
  · rw [hb_and, hb_not _ k64, hb_or, Bool.and_eq_true, Bool.not_eq_true', Bool.or_eq_false_iff, a3 k]
    refine ⟨fun w => ⟨w.1.1, w.1.2, Classical.byContradiction (fun z => ?_)⟩, fun w => ⟨⟨w.1, w.2.1⟩, ?_, ?_⟩⟩
    · by_cases y : nI k < P k
      · exact absurd ((a4 k).mpr ⟨w.1.1, z, y⟩) (by rw [w.2.1]; decide)
      · exact absurd ((a5 k).mpr ⟨w.1.1, z, y⟩) (by rw [w.2.2]; decide)
    · exact Bool.eq_false_iff.mpr (fun z => ((a4 k).mp z).2.1 w.2.2)
    · exact Bool.eq_false_iff.mpr (fun z => ((a5 k).mp z).2.1 w.2.2)
  · rw [hb_big (by omega)]
    exact ⟨fun w => absurd w (by decide), fun w => absurd w.1 (by omega)⟩
theorem hpx_criticalOnes {t : XT} {c K : Nat} {P : Nat → Int32} {G : Nat → Prop} {Q : Int32 → XT → Prop} (h : hpX t c P G) (hc : c ≤ 60) (hK : 3 ≤ K) (hQ : Q (hm_cnt (fun k => hm_ind (¬ G k ∧ P k = -1)) c) t) : wqX11_criticalOnes K t Q := by
  obtain ⟨K, rfl⟩ : ∃ K', K = K' + 1 := ⟨K - 1, by omega⟩
  show wbX11_criticalOnes_0 (wpX11_criticalOnes K) K t (fun _ => 0) (fun _ => 0) Q
  refine hpx_unpaired h hc (by omega) (fun v hv => hw_bc64 (by omega) ?_)
  rw [hct hv (by omega)]; exact hQ
theorem hpx_howMany {t : XT} {c K : Nat} {P : Nat → Int32} {G : Nat → Prop} {Q : Int32 → XT → Prop} (h : hpX t c P G) (hc : c ≤ 60) (hK : 2 ≤ K) (hQ : Q (hm_cnt (fun k => hm_ind (P k ≠ -1 ∧ nI k < P k)) c) t) : wqX6_howMany K t Q := by
  obtain ⟨K, rfl⟩ : ∃ K', K = K' + 1 := ⟨K - 1, by omega⟩
  show wbX6_howMany_0 (wpX6_howMany K) K t (fun _ => 0) (fun _ => 0) Q
  refine hw_bc64 (by omega) ?_
  rw [hct h.2.2.2.1 (by omega)]; exact hQ
