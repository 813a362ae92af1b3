/-! ===== count: the greatest DIM, on both sides ===== -/
/-- r is the greatest DIM of what p says below c -/
def hgr (L : Nat → Int32) (c b : Nat) (p : Nat → Prop) (r : Int32) : Prop :=
  (r = -1 ∧ ∀ k, k < c → p k → ∀ e, e < b → hm_bc (L k) ≠ nI (e + 1)) ∨ ∃ d, d < b ∧ r = nI d ∧ (∃ k, k < c ∧ p k ∧ hm_bc (L k) = nI (d + 1)) ∧ ∀ k, k < c → p k → ∀ e, e < b → hm_bc (L k) = nI (e + 1) → e ≤ d
theorem hgr_uni {L : Nat → Int32} {c : Nat} {p : Nat → Prop} {r r' : Int32} (h : hgr L c 5 p r) (h' : hgr L c 5 p r') : r = r' := by
  rcases h with ⟨a, b⟩ | ⟨d, d5, e, ⟨k, kc, pk, dk⟩, g⟩
  · rcases h' with ⟨a', _⟩ | ⟨d', d5', _, ⟨k', kc', pk', dk'⟩, _⟩
    · exact a.trans a'.symm
    · exact absurd dk' (b k' kc' pk' d' d5')
  · rcases h' with ⟨_, b'⟩ | ⟨d', d5', e', ⟨k', kc', pk', dk'⟩, g'⟩
    · exact absurd dk (b' k kc pk d d5)
    · have a1 := g k' kc' pk' d' d5' dk'
      have a2 := g' k kc pk d d5 dk
      rw [e, e', Nat.le_antisymm a2 a1]
theorem hnL_bc {L : Nat → Int32} {c k : Nat} (hL : hnL L c) (hk : k < c) : ∃ d, d < 5 ∧ hm_bc (L k) = nI (d + 1) := by
  obtain ⟨_, _, hR, _⟩ := hL
  obtain ⟨x, x0, x1, x2, x3, x4⟩ := hR k hk
  exact ⟨hq_Z x - 1, by omega, by rw [x2, hf_bcZ, Nat.sub_add_cancel x3]⟩
theorem hmx_gd_go {t : XT} {L : Nat → Int32} {c : Nat} {lj : Nat → Int64} {Q : Int32 → XT → Prop} (hM : hmE t L c) (hL : hnL L c) (hQ : ∀ r, hgr L c 5 (fun k => hm_gone t k = 0) r → Q r t) :
    ∀ (d i K : Nat) (li : Nat → Int32), i + d = c → 2 * d + 20 ≤ K → hgr L i 5 (fun k => hm_gone t k = 0) (li 1) → li 2 = nI i → wpX12_greatestDim K 1 t li lj Q := by
  have hc := hL.1
  intro d
  induction d with
  | zero =>
    intro i K li hd hK h1 e2
    obtain ⟨K, rfl⟩ : ∃ K', K = K' + 1 := ⟨K - 1, by omega⟩
    obtain rfl : i = c := by omega
    show wbX12_greatestDim_1 (wpX12_greatestDim K) K t li lj Q
    exact ⟨fun _ => hQ _ h1, fun x => absurd (show t.1 3 ≤ li 2 by rw [hM.1, e2]; exact nI_le (by omega) (by omega)) x⟩
  | succ d ih =>
    intro i K li hd hK h1 e2
    obtain ⟨K, rfl⟩ : ∃ K', K = K' + 2 := ⟨K - 2, by omega⟩
    have nx : ∀ v : Int32, hgr L (i + 1) 5 (fun k => hm_gone t k = 0) v → wpX12_greatestDim (K + 1) 2 t (uI li 100 v) lj Q := by
      intro v hv
      show wbX12_greatestDim_2 (wpX12_greatestDim K) K t (uI li 100 v) lj Q
      intro v6 e6
      exact ih (i + 1) K _ (by omega) (by omega) hv (by show v6 = _; rw [e6]; exact (congrArg (· + Int32.ofInt 1) e2).trans (hs_inc i))
    obtain ⟨di, di5, hdi⟩ := hnL_bc hL (show i < c by omega)
    have dim : hm_dim t i = nI di := by
      unfold hm_dim hm_let
      rw [hM.2.1 i (by omega), hdi]; exact nI_pred di
    show wbX12_greatestDim_1 (wpX12_greatestDim (K + 1)) (K + 1) t li lj Q
    unfold wbX12_greatestDim_1
    rw [e2]
    refine ⟨fun x => absurd (show t.1 3 ≤ nI i from x) (by rw [hM.1]; exact nI_ge (by omega) (by omega)), fun _ => ?_⟩
    refine hm_isThere hM.1 hc (by omega) (fun j hj ej gj => ⟨fun z => absurd z (by decide), fun _ => ?_⟩) (fun no => ⟨fun _ => nx (li 1) ?_, fun z => absurd rfl z⟩)
    · have gi : hm_gone t i = 0 := by
        have := (nI_eq (by omega) (by omega)).mp ej
        rw [this]; exact gj
      refine hm_dimOf (by omega) (by omega) (fun v5 e5 => nx v5 ?_)
      rw [dim] at e5
      rcases h1 with ⟨a, b⟩ | ⟨d', d5', e', ⟨k', kc', pk', dk'⟩, g'⟩
      · rw [a, if_pos (show (-1 : Int32) < nI di from Int32.lt_of_lt_of_le (by decide : (-1 : Int32) < 0) (nI_pos' (by omega)))] at e5
        refine Or.inr ⟨di, di5, e5, ⟨i, by omega, gi, hdi⟩, fun k hk gk e he q => ?_⟩
        by_cases z : k = i
        · subst z
          have := (nI_eq (by omega) (by omega)).mp (q.symm.trans hdi)
          omega
        · exact absurd q (b k (by omega) gk e he)
      · by_cases lt : d' < di
        · rw [e', if_pos (nI_lt lt (by omega))] at e5
          refine Or.inr ⟨di, di5, e5, ⟨i, by omega, gi, hdi⟩, fun k hk gk e he q => ?_⟩
          by_cases z : k = i
          · subst z
            have := (nI_eq (by omega) (by omega)).mp (q.symm.trans hdi)
            omega
          · have := g' k (by omega) gk e he q
            omega
        · rw [e', if_neg (nI_nlt (by omega) (by omega))] at e5
          refine Or.inr ⟨d', d5', e5, ⟨k', by omega, pk', dk'⟩, fun k hk gk e he q => ?_⟩
          by_cases z : k = i
          · subst z
            have := (nI_eq (by omega) (by omega)).mp (q.symm.trans hdi)
            omega
          · exact g' k (by omega) gk e he q
    · have gi : ¬ hm_gone t i = 0 := no i (by omega) rfl
      rcases h1 with ⟨a, b⟩ | ⟨d', d5', e', ⟨k', kc', pk', dk'⟩, g'⟩
      · refine Or.inl ⟨a, fun k hk gk => ?_⟩
        by_cases z : k = i
        · subst z; exact absurd gk gi
        · exact b k (by omega) gk
      · refine Or.inr ⟨d', d5', e', ⟨k', by omega, pk', dk'⟩, fun k hk gk => ?_⟩
        by_cases z : k = i
        · subst z; exact absurd gk gi
        · exact g' k (by omega) gk
theorem hmx_gd {t : XT} {L : Nat → Int32} {c K : Nat} {Q : Int32 → XT → Prop} (hM : hmE t L c) (hL : hnL L c) (hK : 200 ≤ K) (hQ : ∀ r, hgr L c 5 (fun k => hm_gone t k = 0) r → Q r t) : wqX12_greatestDim K t Q := by
  have hc := hL.1
  obtain ⟨K, rfl⟩ : ∃ K', K = K' + 1 := ⟨K - 1, by omega⟩
  show wbX12_greatestDim_0 (wpX12_greatestDim K) K t (fun _ => 0) (fun _ => 0) Q
  exact hmx_gd_go (lj := fun _ => 0) hM hL hQ c 0 K _ (by omega) (by omega) (Or.inl ⟨rfl, fun k hk => absurd hk (by omega)⟩) rfl
theorem hpx_gd_go {t : XT} {L : Nat → Int32} {c : Nat} {v : Int64} {p : Nat → Prop} {Q : Int32 → XT → Prop} (hE : hcE t L c) (hv : ∀ k, hb v k = true ↔ (k < c ∧ p k)) (hQ : ∀ r, hgr L c 5 p r → Q r t) :
    ∀ (d i K : Nat) (li : Nat → Int32) (lj : Nat → Int64), i + d = 5 → 2 * d + 5 ≤ K → lj 1 = v → hgr L c i p (li 3) → li 4 = nI i → wpX9_greatestDim K 1 t li lj Q := by
  intro d
  induction d with
  | zero =>
    intro i K li lj hd hK ev h3 e4
    obtain ⟨K, rfl⟩ : ∃ K', K = K' + 1 := ⟨K - 1, by omega⟩
    obtain rfl : i = 5 := by omega
    show wbX9_greatestDim_1 (wpX9_greatestDim K) K t li lj Q
    exact ⟨fun _ => hQ _ h3, fun x => absurd (show nI 5 ≤ li 4 by rw [e4]; exact nI_le (by omega) (by omega)) x⟩
  | succ d ih =>
    intro i K li lj hd hK ev h3 e4
    obtain ⟨K, rfl⟩ : ∃ K', K = K' + 2 := ⟨K - 2, by omega⟩
    have ci : (nI i).toNatClampNeg = i := nI_clamp (by omega)
    have nx : ∀ li' : Nat → Int32, hgr L c (i + 1) p (li' 3) → li' 4 = nI i → wpX9_greatestDim (K + 1) 2 t li' lj Q := by
      intro li' a3 a4
      show wbX9_greatestDim_2 (wpX9_greatestDim K) K t li' lj Q
      intro v6 e6
      exact ih (i + 1) K _ lj (by omega) (by omega) ev a3 (by show v6 = _; rw [e6, a4]; exact hs_inc i)
    show wbX9_greatestDim_1 (wpX9_greatestDim (K + 1)) (K + 1) t li lj Q
    unfold wbX9_greatestDim_1
    rw [e4]
    refine ⟨fun x => absurd (show nI 5 ≤ nI i from x) (nI_ge (by omega) (by omega)), fun _ => ⟨vp_in_nI (n := i) (by omega) (by decide), fun v2 f2 v3 f3 v4 f4 => ?_⟩⟩
    have f2 : v2 = t.2.2.2 2 i := f2.trans (congrArg (t.2.2.2 2) ci)
    have b3 : ∀ k, hb v3 k = true ↔ (k < c ∧ p k ∧ hm_bc (L k) = nI (i + 1)) := fun k => by
      rw [f3, ev, f2, hb_and, Bool.and_eq_true, hv k, hE.2.2.2.2.2.2 i k (by omega)]
      exact ⟨fun w => ⟨w.1.1, w.1.2, w.2.2⟩, fun w => ⟨⟨w.1, w.2.1⟩, w.1, w.2.2⟩⟩
    refine ⟨fun z => nx li ?_ e4, fun nz => nx (uI li 3 (nI i)) ?_ e4⟩
    · rw [f4] at z
      have no : ∀ k, k < c → p k → hm_bc (L k) ≠ nI (i + 1) := fun k hk pk q => absurd ((b3 k).mpr ⟨hk, pk, q⟩) (by rw [hb_z z k]; decide)
      rcases h3 with ⟨a, b⟩ | ⟨d', d5', e', w, g'⟩
      · refine Or.inl ⟨a, fun k hk pk e he => ?_⟩
        by_cases y : e = i
        · subst y; exact no k hk pk
        · exact b k hk pk e (by omega)
      · refine Or.inr ⟨d', by omega, e', w, fun k hk pk e he q => ?_⟩
        by_cases y : e = i
        · subst y; exact absurd q (no k hk pk)
        · exact g' k hk pk e (by omega) q
    · rcases @hb_ne v3 with z | ⟨k, _, kb, _⟩
      · exact absurd (by rw [f4, z]; decide) nz
      · have w := (b3 k).mp kb
        exact Or.inr ⟨i, by omega, rfl, ⟨k, w.1, w.2.1, w.2.2⟩, fun k hk pk e he q => by omega⟩
theorem hpx_gd {t : XT} {L : Nat → Int32} {c K : Nat} {v : Int64} {p : Nat → Prop} {Q : Int32 → XT → Prop} (hE : hcE t L c) (hv : ∀ k, hb v k = true ↔ (k < c ∧ p k)) (hK : 100 ≤ K) (hQ : ∀ r, hgr L c 5 p r → Q r t) : wqX9_greatestDim K t v Q := by
  obtain ⟨K, rfl⟩ : ∃ K', K = K' + 1 := ⟨K - 1, by omega⟩
  show wbX9_greatestDim_0 (wpX9_greatestDim K) K t (fun _ => 0) (uI (fun _ => 0) 1 v) Q
  exact hpx_gd_go hE hv hQ 5 0 K _ _ (by omega) (by omega) rfl (Or.inl ⟨rfl, fun k _ _ e he => absurd he (by omega)⟩) rfl
