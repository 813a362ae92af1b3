/-! ===== reading, exactly: the loop over FACETS, of the reference ===== -/
/-- what is asked behind the loop -/
def hry (t : XT) (z : Nat) (o : Int32 × List Int32) (Q : Int32 → XT → Prop) : Prop :=
  (¬ o.1 = 0 → ∀ B' p' K' li, 12000 ≤ K' → p' ≤ z → wpX12_complex K' 5 (hq_st t B' p' o.1) li (fun _ => 0) Q) ∧ (o.1 = 0 → ∀ B' p' K' li, 12000 ≤ K' → p' ≤ z → hrz B' (hrT o.2) → wpX12_complex K' 5 (hq_st t B' p' (-1)) li (fun _ => 0) Q)
theorem hrl_nn {D : Nat → Int32} : ∀ (d p : Nat) (s : Int32), p + d ≤ 160 → (hrl D d p s).1 ≠ -1 := by
  intro d
  induction d with
  | zero => exact fun p s _ => show (0 : Int32) ≠ -1 by decide
  | succ d ih =>
    intro p s hp
    unfold hrl
    by_cases c : (97 : Int32) ≤ D p ∧ D p ≤ 104
    · rw [if_pos c]
      by_cases e : s &&& ((1 : Int32) <<< ((D p - 97) &&& 31)) = 0
      · rw [if_neg (fun q => q e)]
        by_cases f : hm_bc s = 5
        · rw [if_pos f]; exact hs_nI_neg (by omega)
        · rw [if_neg f]; exact ih _ _ (by omega)
      · rw [if_pos e]; exact hs_nI_neg (by omega)
    · rw [if_neg c]; exact show (0 : Int32) ≠ -1 by decide
theorem hrf_nn {D : Nat → Int32} {y p : Nat} {a : Int32} (hp : p ≤ y) (hy : y ≤ 160) : (hrf D y a p).1 ≠ -1 := by
  unfold hrf
  by_cases c : (97 : Int32) ≤ (if p < y then D p else -1) ∧ (if p < y then D p else -1) ≤ 104
  · rw [if_pos c]
    by_cases e : a = 24
    · rw [if_pos e]; exact hs_nI_neg (by omega)
    · rw [if_neg e]; exact hrl_nn _ _ _ (by omega)
  · rw [if_neg c]; exact hs_nI_neg (by omega)
theorem hre_complex_go {t : XT} {z : Nat} {Q : Int32 → XT → Prop} (hz : t.1 0 = nI z) (hz160 : z ≤ 160) :
    ∀ (d f p K : Nat) (l : List Int32) (B li : Nat → Int32), f + d = 25 → f ≤ 24 → 4 * d + 20000 ≤ K → p ≤ z → li 1 = nI f → li 2 = 1 → hrz B (hrT l) → hry t z (hrd (fun i => t.2.2.1 0 i &&& 255) z d f p l) Q → wpX12_complex K 2 (hq_st t B p (-1)) li (fun _ => 0) Q := by
  intro d
  induction d with
  | zero => intro f p K l B li hd hf; omega
  | succ d ih =>
    intro f p K l B li hd hf hK hp e1 e2 hB H
    obtain ⟨K, rfl⟩ : ∃ K', K = K' + 4 := ⟨K - 4, by omega⟩
    unfold hrd at H
    obtain ⟨D, hD⟩ : ∃ D : Nat → Int32, D = fun i => t.2.2.1 0 i &&& 255 := ⟨_, rfl⟩
    rw [← hD] at H
    have isk := hre_sk_in D (z - p) p
    obtain ⟨q, hq⟩ : ∃ q, q = hre_sk D (z - p) p := ⟨_, rfl⟩
    rw [← hq] at H isk
    obtain ⟨o, ho⟩ : ∃ o, o = hrf D z (nI f) q := ⟨_, rfl⟩
    have io := @hrf_in D z q (nI f) (by omega)
    have nn := @hrf_nn D z q (nI f) (by omega) hz160
    rw [← ho] at H io nn
    -- behind the loop with a FAULT told
    have bad : ∀ (li' B' : Nat → Int32) (p' : Nat) (v : Int32), v ≠ -1 → p' ≤ z → (∀ B' p' K' li, 12000 ≤ K' → p' ≤ z → wpX12_complex K' 5 (hq_st t B' p' v) li (fun _ => 0) Q) → wpX12_complex (K + 3) 3 (hq_st t B' p' v) li' (fun _ => 0) Q := by
      intro li' B' p' v nv hp' h
      show wbX12_complex_4 (wpX12_complex (K + 1)) (K + 1) (hq_st t B' p' v) (uI li' 100 0) (fun _ => 0) Q
      refine hm_truth0 (by omega) (fun v19 e19 t20 e20 => ?_)
      have e19 : v19 = nI p' := e19.trans (Int32.add_zero _)
      rw [e20, e19, hq_st_p]
      show wbX12_complex_2 (wpX12_complex K) K (hq_st t B' p' v) (uI (uI li' 100 0) 2 0) (fun _ => 0) Q
      refine ⟨fun _ => ?_, fun x => absurd rfl x⟩
      exact hq_isRight (by omega) (fun x => absurd x nv) (fun _ => ⟨fun _ => h B' p' K _ (by omega) hp', fun x => absurd rfl x⟩)
    show wbX12_complex_2 (wpX12_complex (K + 3)) (K + 3) (hq_st t B p (-1)) li (fun _ => 0) Q
    refine ⟨fun x => absurd (e2.symm.trans x) (by decide), fun _ => ?_⟩
    rw [e1]
    refine hre_readsFacet hz hz160 hp (by omega) ?_
    rw [← hD, ← hq, ← ho]
    refine ⟨fun no p' hp' v13 e13 => ?_, fun yes B' hB' => ?_⟩
    · rw [if_pos no] at H
      exact hq_isRight (by omega) (fun x => absurd x nn) (fun _ => ⟨fun _ => bad _ B p' o.1 nn hp' (H.1 no), fun x => absurd rfl x⟩)
    rw [if_neg (fun w => w yes)] at H
    have hzt := hrT_told hB hB'
    have cnt := hrz_N hzt 255 (by decide)
    rw [← cnt] at H
    have iw := hre_sk_in D (z - o.2.1) o.2.1
    rw [← hD]
    obtain ⟨w, hw⟩ : ∃ w, w = hre_sk D (z - o.2.1) o.2.1 := ⟨_, rfl⟩
    rw [← hw] at H iw ⊢
    refine ⟨fun le v13 e13 => ?_, fun gt v13 e13 => ?_⟩
    · rw [if_neg (fun x => x le)] at H
      refine hq_isRight (by omega) (fun _ => ⟨fun x => absurd x (by decide), fun _ => ?_⟩) (fun x => absurd rfl x)
      refine hre_byte hz hz160 (by omega) (by omega) ?_
      have Dw : t.2.2.1 0 w &&& 255 = D w := by rw [hD]
      rw [Dw]
      by_cases e : w = z
      · -- all is read
        rw [if_pos e] at H
        rw [if_neg (show ¬ w < z by omega)]
        refine ⟨fun _ => ?_, fun x => absurd x (by decide)⟩
        show wbX12_complex_4 (wpX12_complex (K + 1)) (K + 1) (hq_st t B' w (-1)) (uI (uI li 1 v13) 100 0) (fun _ => 0) Q
        refine hm_truth0 (by omega) (fun v19 e19 t20 e20 => ?_)
        have e19 : v19 = nI w := e19.trans (Int32.add_zero _)
        rw [e20, e19, hq_st_p]
        show wbX12_complex_2 (wpX12_complex K) K (hq_st t B' w (-1)) (uI (uI (uI li 1 v13) 100 0) 2 0) (fun _ => 0) Q
        refine ⟨fun _ => ?_, fun x => absurd rfl x⟩
        refine hq_isRight (by omega) (fun _ => ⟨fun x => absurd x (by decide), fun _ => ?_⟩) (fun x => absurd rfl x)
        refine hre_byte hz hz160 (by omega) (by omega) ?_
        rw [if_neg (show ¬ w < z by omega)]
        exact ⟨fun _ => H.2 rfl B' w K _ (by omega) (by omega) hzt, fun x => absurd rfl x⟩
      · rw [if_neg e, Dw] at H
        have lt : w < z := by omega
        rw [if_pos lt]
        by_cases c : D w = 44
        · rw [if_pos c] at H
          refine ⟨fun x => absurd c x, fun _ => ?_⟩
          show wbX12_complex_4 (wpX12_complex (K + 2)) (K + 2) (hq_st t B' w (-1)) (uI (uI li 1 v13) 100 1) (fun _ => 0) Q
          refine hm_truth1 (by omega) (fun v19 e19 t20 e20 => ?_)
          have e19 : v19 = nI (w + 1) := e19.trans (nI_1 w)
          rw [e20, e19, hq_st_p]
          have hf2 : f ≠ 24 := fun x => by
            subst x
            exact hrf_24 (D := D) (y := z) (p := q) (by omega) (by rw [← ho]; exact yes)
          refine ih (f + 1) (w + 1) (K + 2) _ B' _ (by omega) (by omega) (by omega) (by omega) ?_ rfl hzt (by rw [← hD]; exact H)
          show v13 = nI (f + 1)
          rw [e13]; exact hs_inc f
        · rw [if_neg c] at H
          refine ⟨fun _ => ?_, fun x => absurd x c⟩
          show wbX12_complex_4 (wpX12_complex (K + 1)) (K + 1) (hq_st t B' w (-1)) (uI (uI li 1 v13) 100 0) (fun _ => 0) Q
          refine hm_truth0 (by omega) (fun v19 e19 t20 e20 => ?_)
          have e19 : v19 = nI w := e19.trans (Int32.add_zero _)
          rw [e20, e19, hq_st_p]
          show wbX12_complex_2 (wpX12_complex K) K (hq_st t B' w (-1)) (uI (uI (uI li 1 v13) 100 0) 2 0) (fun _ => 0) Q
          refine ⟨fun _ => ?_, fun x => absurd rfl x⟩
          refine hq_isRight (by omega) (fun _ => ⟨fun x => absurd x (by decide), fun _ => ?_⟩) (fun x => absurd rfl x)
          refine hre_byte hz hz160 (by omega) (by omega) ?_
          rw [if_pos lt]
          have out : wqX12_fails K (hq_st t B' w (-1)) (nI 1) (nI w) (fun t_11 => wpX12_complex K 5 t_11 (uI (uI (uI li 1 v13) 100 0) 2 0) (fun _ => 0) Q) := hre_failsT (kind := 1) (place := w) (by omega) (by omega) (by omega) (H.1 (hre_k0 (by omega) (by omega) (by omega)) B' w K _ (by omega) (by omega))
          refine ⟨fun x => absurd x ?_, fun _ => out⟩
          show ¬ t.2.2.1 0 w &&& 255 = -1
          have m := pk_andE (t.2.2.1 0 w) (m := 255) 8 (by decide)
          obtain ⟨j, hj, ej⟩ := m
          rw [ej]; exact hs_nI_neg (by omega)
    · rw [if_pos gt] at H
      have nv : nI (8 * q + 5) ≠ -1 := hs_nI_neg (by omega)
      exact hq_isRight (by omega) (fun x => absurd x nv) (fun _ => ⟨fun _ => bad _ B' w _ nv (by omega) (H.1 (hre_k0 (by omega) (by omega) (by omega))), fun x => absurd rfl x⟩)
