/-! ===== the reference's elimination ends wherever Long.MIN_VALUE is never met among what is left (hs_ends) ===== -/
def hs_st (t : XT) (T S : Nat → Int64) : XT := sB (sB t 5 S) 4 T
theorem hs_st5 (t : XT) (T S S' : Nat → Int64) : sB (hs_st t T S) 5 S' = hs_st t T S' := by
  unfold hs_st sB uI
  refine Prod.ext rfl (Prod.ext rfl (Prod.ext rfl ?_))
  funext j
  show cond (Nat.beq j 5) S' (cond (Nat.beq j 4) T (cond (Nat.beq j 5) S (t.2.2.2 j))) = cond (Nat.beq j 4) T (cond (Nat.beq j 5) S' (t.2.2.2 j))
  cases h5 : Nat.beq j 5 with
  | false => cases Nat.beq j 4 <;> rfl
  | true =>
    cases h4 : Nat.beq j 4 with
    | false => rfl
    | true => exact absurd ((Nat.eq_of_beq_eq_true h5).symm.trans (Nat.eq_of_beq_eq_true h4)) (by decide)
theorem hs_max {φ : Nat → Nat → Prop} : ∀ n : Nat, (∀ r, r < n → ∃ K0, ∀ K, K0 ≤ K → φ r K) → ∃ K0, ∀ r, r < n → ∀ K, K0 ≤ K → φ r K := by
  intro n
  induction n with
  | zero => intro _; exact ⟨0, fun r hr => absurd hr (by omega)⟩
  | succ n ih =>
    intro h
    obtain ⟨a, ha⟩ := ih (fun r hr => h r (by omega))
    obtain ⟨b, hb⟩ := h n (by omega)
    refine ⟨a + b, fun r hr K hK => ?_⟩
    by_cases e : r = n
    · rw [e]; exact hb K (by omega)
    · exact ha r (by omega) K (by omega)
def hs_go (t : XT) (Q : Int32 → XT → Prop) (i : Nat) (T : Nat → Int64) : Prop := ∃ K0, ∀ (K : Nat) (S : Nat → Int64) (li : Nat → Int32) (lj : Nat → Int64), K0 ≤ K → li 1 = nI i → wpX12_laysSteps K 1 (hs_st t T S) li lj Q
theorem hs_out {t : XT} {Q : Int32 → XT → Prop} {i K : Nat} {T S : Nat → Int64} {li : Nat → Int32} {lj : Nat → Int64} (hi : i ≤ 60) (hQ : ∀ (n : Nat) (T S : Nat → Int64), n ≤ 60 → Q (nI n) (hs_st t T S)) (hK : 1 ≤ K) (e : li 1 = nI i) : wpX12_laysSteps K 2 (hs_st t T S) li lj Q := by
  obtain ⟨K, rfl⟩ : ∃ K', K = K' + 1 := ⟨K - 1, by omega⟩
  show Q (li 1) (hs_st t T S)
  rw [e]
  exact hQ i T S hi
theorem hs_pass {t : XT} {Q : Int32 → XT → Prop} {i h w : Nat} {T : Nat → Int64} (hh : t.1 6 = nI h) (hw : t.1 7 = nI w) (hh60 : h ≤ 60) (hw60 : w ≤ 60) (hi : i ≤ 60) (hn : hs_nomin T i h w)
    (hQ : ∀ (n : Nat) (T S : Nat → Int64), n ≤ 60 → Q (nI n) (hs_st t T S))
    (g1 : ∀ p, i < h → i < w → hs_least T i h w = some p → hs_clearF h w i (hs_bring h w i p T) = false → hs_go t Q i (hs_clearT h w i (hs_bring h w i p T)))
    (g2 : ∀ p r c, i < h → i < w → hs_least T i h w = some p → hs_clearF h w i (hs_bring h w i p T) = true → i < r → r < h → i < c → c < w → hs_rem (hs_clearT h w i (hs_bring h w i p T) (60 * r + c)) (hs_clearT h w i (hs_bring h w i p T) (60 * i + i)) ≠ 0 → hs_go t Q i (hs_addRow w i r 1 (hs_clearT h w i (hs_bring h w i p T))))
    (g3 : ∀ p, i < h → i < w → hs_least T i h w = some p → hs_clearF h w i (hs_bring h w i p T) = true → (∀ r c, i < r → r < h → i < c → c < w → hs_rem (hs_clearT h w i (hs_bring h w i p T) (60 * r + c)) (hs_clearT h w i (hs_bring h w i p T) (60 * i + i)) = 0) → hs_go t Q (i + 1) (hs_clearT h w i (hs_bring h w i p T))) :
    hs_go t Q i T := by
  by_cases hih : h ≤ i
  · refine ⟨2, fun K S li lj hK e => ?_⟩
    obtain ⟨K, rfl⟩ : ∃ K', K = K' + 1 := ⟨K - 1, by omega⟩
    show wbX12_laysSteps_1 (wpX12_laysSteps K) K (hs_st t T S) li lj Q
    refine ⟨fun _ => hs_out hi hQ (by omega) e, fun c1 => absurd (show t.1 6 ≤ li 1 from ?_) c1⟩
    rw [hh, e]; exact nI_le hih (by omega)
  have hih : i < h := by omega
  by_cases hiw : w ≤ i
  · refine ⟨2, fun K S li lj hK e => ?_⟩
    obtain ⟨K, rfl⟩ : ∃ K', K = K' + 1 := ⟨K - 1, by omega⟩
    show wbX12_laysSteps_1 (wpX12_laysSteps K) K (hs_st t T S) li lj Q
    refine ⟨fun _ => hs_out hi hQ (by omega) e, fun _ => ⟨fun _ => hs_out hi hQ (by omega) e, fun c1 => absurd (show t.1 7 ≤ li 1 from ?_) c1⟩⟩
    rw [hw, e]; exact nI_le hiw (by omega)
  have hiw : i < w := by omega
  have hc6 : ∀ li : Nat → Int32, li 1 = nI i → ¬ t.1 6 ≤ li 1 := fun li e => by rw [hh, e]; exact nI_ge hih (by omega)
  have hc7 : ∀ li : Nat → Int32, li 1 = nI i → ¬ t.1 7 ≤ li 1 := fun li e => by rw [hw, e]; exact nI_ge hiw (by omega)
  have inv := hs_least_inv (Nat.le_of_lt hih) (Nat.le_of_lt hiw) hn
  cases hl : hs_least T i h w with
  | none =>
    refine ⟨20000, fun K S li lj hK e => ?_⟩
    obtain ⟨K, rfl⟩ : ∃ K', K = K' + 1 := ⟨K - 1, by omega⟩
    show wbX12_laysSteps_1 (wpX12_laysSteps K) K (hs_st t T S) li lj Q
    refine ⟨fun c1 => absurd c1 (hc6 li e), fun _ => ⟨fun c1 => absurd c1 (hc7 li e), fun _ => ?_⟩⟩
    rw [e]
    refine hs_bringsLeast (t := hs_st t T S) hh hw hh60 hw60 hih hiw (by omega) (fun _ => ⟨fun _ => hs_out hi hQ (by omega) e, fun c2 => absurd rfl c2⟩) (fun p hp => ?_)
    exact absurd ((show hs_least T i h w = some p from hp).symm.trans hl) (by simp)
  | some p =>
    have hp := inv.2.2 p hl
    have hpp : T (60 * p.1 + p.2) ≠ 0 := hp.2.1
    have hpiv : hs_bring h w i p T (60 * i + i) ≠ 0 := by rw [hs_bring_piv hh60 hw60 hih hiw hp.1]; exact hpp
    have hpiv2 : hs_clearT h w i (hs_bring h w i p T) (60 * i + i) ≠ 0 := by rw [hs_clearT_piv hw60 hiw]; exact hpiv
    cases hf : hs_clearF h w i (hs_bring h w i p T) with
    | false =>
      obtain ⟨K0, hK0⟩ := g1 p hih hiw hl hf
      refine ⟨K0 + 20000, fun K S li lj hK e => ?_⟩
      obtain ⟨K, rfl⟩ : ∃ K', K = K' + 1 := ⟨K - 1, by omega⟩
      show wbX12_laysSteps_1 (wpX12_laysSteps K) K (hs_st t T S) li lj Q
      refine ⟨fun c1 => absurd c1 (hc6 li e), fun _ => ⟨fun c1 => absurd c1 (hc7 li e), fun _ => ?_⟩⟩
      rw [e]
      refine hs_bringsLeast (t := hs_st t T S) hh hw hh60 hw60 hih hiw (by omega) (fun hq => ?_) (fun p' hq => ?_)
      · exact absurd (hl.symm.trans (show hs_least T i h w = none from hq)) (by simp)
      · obtain rfl := Option.some.inj (hl.symm.trans (show hs_least T i h w = some p' from hq))
        refine ⟨fun c2 => absurd c2 (by decide), fun _ => ?_⟩
        refine hs_clears (t := hs_st t T S) hh hw hh60 hw60 hih hiw (by omega) hpiv ?_
        rw [show sB (hs_st t T S) 4 (hs_clearT h w i (hs_swapCol h i p.2 (hs_swapRow w i p.1 ((hs_st t T S).2.2.2 4)))) = hs_st t (hs_clearT h w i (hs_bring h w i p T)) S from hs_sBB _ _ _ _]
        rw [show hs_clearF h w i (hs_swapCol h i p.2 (hs_swapRow w i p.1 ((hs_st t T S).2.2.2 4))) = false from hf]
        exact ⟨fun c3 => absurd rfl c3, fun _ => hK0 K S li lj (by omega) e⟩
    | true =>
      have c2 : ∃ K0, ∀ r, r < h → ∀ K, K0 ≤ K → (∀ (S : Nat → Int64) (li : Nat → Int32) (lj : Nat → Int64) (c : Nat), i < r → i < c → c < w → hs_rem (hs_clearT h w i (hs_bring h w i p T) (60 * r + c)) (hs_clearT h w i (hs_bring h w i p T) (60 * i + i)) ≠ 0 → li 1 = nI i → wpX12_laysSteps K 1 (hs_st t (hs_addRow w i r 1 (hs_clearT h w i (hs_bring h w i p T))) S) li lj Q) := by
        refine hs_max h (fun r hr => ?_)
        by_cases q : i < r ∧ ∃ c, i < c ∧ c < w ∧ hs_rem (hs_clearT h w i (hs_bring h w i p T) (60 * r + c)) (hs_clearT h w i (hs_bring h w i p T) (60 * i + i)) ≠ 0
        · obtain ⟨q1, c, q2, q3, q4⟩ := q
          obtain ⟨K0, hK0⟩ := g2 p r c hih hiw hl hf q1 hr q2 q3 q4
          exact ⟨K0, fun K hK S li lj c' _ _ _ _ e => hK0 K S li lj hK e⟩
        · exact ⟨0, fun K hK S li lj c' a b d y _ => absurd ⟨a, c', b, d, y⟩ q⟩
      have c3 : ∃ K0, ∀ (K : Nat) (S : Nat → Int64) (li : Nat → Int32) (lj : Nat → Int64), K0 ≤ K → (∀ r c, i < r → r < h → i < c → c < w → hs_rem (hs_clearT h w i (hs_bring h w i p T) (60 * r + c)) (hs_clearT h w i (hs_bring h w i p T) (60 * i + i)) = 0) → li 1 = nI (i + 1) → wpX12_laysSteps K 1 (hs_st t (hs_clearT h w i (hs_bring h w i p T)) S) li lj Q := by
        by_cases q : ∀ r c, i < r → r < h → i < c → c < w → hs_rem (hs_clearT h w i (hs_bring h w i p T) (60 * r + c)) (hs_clearT h w i (hs_bring h w i p T) (60 * i + i)) = 0
        · obtain ⟨K0, hK0⟩ := g3 p hih hiw hl hf q
          exact ⟨K0, fun K S li lj hK _ e => hK0 K S li lj hK e⟩
        · exact ⟨0, fun K S li lj hK y _ => absurd y q⟩
      obtain ⟨K2, hK2⟩ := c2
      obtain ⟨K3, hK3⟩ := c3
      refine ⟨K2 + K3 + 20000, fun K S li lj hK e => ?_⟩
      obtain ⟨K, rfl⟩ : ∃ K', K = K' + 1 := ⟨K - 1, by omega⟩
      show wbX12_laysSteps_1 (wpX12_laysSteps K) K (hs_st t T S) li lj Q
      refine ⟨fun c1 => absurd c1 (hc6 li e), fun _ => ⟨fun c1 => absurd c1 (hc7 li e), fun _ => ?_⟩⟩
      rw [e]
      refine hs_bringsLeast (t := hs_st t T S) hh hw hh60 hw60 hih hiw (by omega) (fun hq => ?_) (fun p' hq => ?_)
      · exact absurd (hl.symm.trans (show hs_least T i h w = none from hq)) (by simp)
      · obtain rfl := Option.some.inj (hl.symm.trans (show hs_least T i h w = some p' from hq))
        refine ⟨fun c2 => absurd c2 (by decide), fun _ => ?_⟩
        refine hs_clears (t := hs_st t T S) hh hw hh60 hw60 hih hiw (by omega) hpiv ?_
        rw [show sB (hs_st t T S) 4 (hs_clearT h w i (hs_swapCol h i p.2 (hs_swapRow w i p.1 ((hs_st t T S).2.2.2 4)))) = hs_st t (hs_clearT h w i (hs_bring h w i p T)) S from hs_sBB _ _ _ _]
        rw [show hs_clearF h w i (hs_swapCol h i p.2 (hs_swapRow w i p.1 ((hs_st t T S).2.2.2 4))) = true from hf]
        refine ⟨fun _ => ?_, fun c3 => absurd c3 (by decide)⟩
        refine hs_undivided (t := hs_st t (hs_clearT h w i (hs_bring h w i p T)) S) hh hw hh60 hw60 hih hiw (by omega) hpiv2 (fun hz => ?_) (fun r c a b d y z => ?_)
        · refine ⟨fun _ => ?_, fun c4 => absurd rfl c4⟩
          refine hs_cellK (by omega) (by omega) (by omega) ?_
          intro v10 f10
          refine ⟨vp_in_nI (by omega) (by decide), fun t11 f11 v12 f12 => ?_⟩
          have f12 : v12 = nI (i + 1) := by rw [f12]; exact hs_inc i
          rw [hs_st5] at f11
          subst f11
          exact hK3 K _ (uI li 1 v12) lj (by omega) hz f12
        · refine ⟨fun c4 => absurd c4 (hs_nI_neg (by omega)), fun _ => ?_⟩
          refine hs_addsRowK (t := hs_st t (hs_clearT h w i (hs_bring h w i p T)) S) hw hw60 (by omega) (by omega) (by omega) (by omega) ?_
          rw [show sB (hs_st t (hs_clearT h w i (hs_bring h w i p T)) S) 4 (hs_addRow w i r 1 ((hs_st t (hs_clearT h w i (hs_bring h w i p T)) S).2.2.2 4)) = hs_st t (hs_addRow w i r 1 (hs_clearT h w i (hs_bring h w i p T))) S from hs_sBB _ _ _ _]
          exact hK2 r b K (by omega) S li lj c a d y z e
