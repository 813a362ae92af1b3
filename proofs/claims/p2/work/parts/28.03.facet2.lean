/-! ===== reading, exactly: a FACET read by the class, from its start ===== -/
def hrf (D : Nat → Int32) (y : Nat) (a : Int32) (p : Nat) : Int32 × Nat × Int32 :=
  if (97 : Int32) ≤ (if p < y then D p else -1) ∧ (if p < y then D p else -1) ≤ 104 then (if a = 24 then (nI (8 * p + 4), p, 0) else hrl D (y - p) p (nI 0)) else (nI (8 * p + 1), p, 0)
theorem hre_readFacet {t : XT} {B : Nat → Int32} {y p K : Nat} {a : Int32} {Q : Int32 → XT → Prop} (h1 : t.1 1 = nI y) (hy : y ≤ 160) (hp : p ≤ y) (hK : 900 ≤ K) (H : hro t B p (hrf (t.2.2.1 0) y a p) Q) : wqX8_readFacet_c1 K (hx_st t B (hq_N B 255) p) a Q := by
  obtain ⟨K, rfl⟩ : ∃ K', K = K' + 1 := ⟨K - 1, by omega⟩
  show wbX8_readFacet_c1_0 (wpX8_readFacet_c1 K) K (hx_st t B (hq_N B 255) p) (uI (fun _ => 0) 2 a) (fun _ => 0) Q
  have D0 : (hx_st t B (hq_N B 255) p).2.2.1 0 p = t.2.2.1 0 p := rfl
  refine hre_at (t := hx_st t B (hq_N B 255) p) (p := p) h1 hy (by omega) (by omega) ?_
  rw [D0]
  refine hre_letterX (by omega) ?_
  unfold hrf at H
  by_cases c : (97 : Int32) ≤ (if p < y then t.2.2.1 0 p else -1) ∧ (if p < y then t.2.2.1 0 p else -1) ≤ 104
  · rw [if_pos c] at H ⊢
    refine ⟨fun _ => ⟨fun n => ?_, fun e => ?_⟩, fun x => absurd x (by decide)⟩
    · have n : ¬ a = 24 := n
      rw [if_neg n] at H
      exact hre_rf_go h1 hy (by omega) (y - p) p 0 K _ (by omega) (by omega) (by decide) rfl rfl H
    · have e : a = 24 := e
      rw [if_pos e] at H
      exact hre_fault (k := 4) (p := p) (by omega) (by omega) (by omega) (H.1 (fun q => absurd ((nI_eq (b := 0) (by omega) (by omega)).mp q) (by omega)) p)
  · rw [if_neg c] at H ⊢
    exact ⟨fun x => absurd rfl x, fun _ => hre_fault (k := 1) (p := p) (by omega) (by omega) (by omega) (H.1 (fun q => absurd ((nI_eq (b := 0) (by omega) (by omega)).mp q) (by omega)) p)⟩
theorem hrl_in {D : Nat → Int32} : ∀ (d p : Nat) (s : Int32), p ≤ (hrl D d p s).2.1 ∧ (hrl D d p s).2.1 ≤ p + d := by
  intro d
  induction d with
  | zero => exact fun p s => ⟨Nat.le_refl p, Nat.le_refl p⟩
  | succ d ih =>
    intro p s
    unfold hrl
    have i := ih (p + 1) (s ||| ((1 : Int32) <<< ((D p - 97) &&& 31)))
    by_cases c : (97 : Int32) ≤ D p ∧ D p ≤ 104
    · rw [if_pos c]
      by_cases e : s &&& ((1 : Int32) <<< ((D p - 97) &&& 31)) = 0
      · rw [if_neg (fun q => q e)]
        by_cases f : hm_bc s = 5
        · rw [if_pos f]; exact ⟨Nat.le_refl p, Nat.le_add_right p _⟩
        · rw [if_neg f]; exact ⟨by omega, by omega⟩
      · rw [if_pos e]; exact ⟨Nat.le_refl p, Nat.le_add_right p _⟩
    · rw [if_neg c]; exact ⟨Nat.le_refl p, Nat.le_add_right p _⟩
theorem hrl_ext {D E : Nat → Int32} : ∀ (d p : Nat) (s : Int32), (∀ i, i < p + d → D i = E i) → hrl D d p s = hrl E d p s := by
  intro d
  induction d with
  | zero => exact fun p s _ => rfl
  | succ d ih =>
    intro p s h
    unfold hrl
    rw [h p (by omega), ih (p + 1) _ (fun i hi => h i (by omega))]
theorem hrf_ext {D E : Nat → Int32} {y p : Nat} {a : Int32} (hp : p ≤ y) (h : ∀ i, i < y → D i = E i) : hrf D y a p = hrf E y a p := by
  unfold hrf
  rw [hrl_ext (y - p) p (nI 0) (fun i hi => h i (by omega))]
  by_cases c : p < y
  · rw [if_pos c, if_pos c, h p c]
  · rw [if_neg c, if_neg c]
