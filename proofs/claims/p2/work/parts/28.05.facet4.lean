/-! ===== reading, exactly: a FACET read by the reference, from its start ===== -/
theorem hre_readsFacet {t : XT} {B : Nat → Int32} {p z K : Nat} {a : Int32} {Q : XT → Prop} (hz : t.1 0 = nI z) (hz160 : z ≤ 160) (hp : p ≤ z) (hK : 5000 ≤ K)
    (H : hrm t z B (hre_sk (fun i => t.2.2.1 0 i &&& 255) (z - p) p) (hrf (fun i => t.2.2.1 0 i &&& 255) z a (hre_sk (fun i => t.2.2.1 0 i &&& 255) (z - p) p)) Q) : wqX12_readsFacet K (hq_st t B p (-1)) a Q := by
  obtain ⟨K, rfl⟩ : ∃ K', K = K' + 2 := ⟨K - 2, by omega⟩
  show wbX12_readsFacet_0 (wpX12_readsFacet (K + 1)) (K + 1) (hq_st t B p (-1)) (uI (fun _ => 0) 1 a) (fun _ => 0) Q
  have i := hre_sk_in (fun i => t.2.2.1 0 i &&& 255) (z - p) p
  refine hre_blanks hz hz160 hp (by omega) ?_
  obtain ⟨q, hq⟩ : ∃ q, q = hre_sk (fun i => t.2.2.1 0 i &&& 255) (z - p) p := ⟨_, rfl⟩
  rw [← hq] at H i ⊢
  refine hre_letterM hz hz160 (by omega) (by omega) ?_
  unfold hrf at H
  by_cases c : (97 : Int32) ≤ (if q < z then t.2.2.1 0 q &&& 255 else -1) ∧ (if q < z then t.2.2.1 0 q &&& 255 else -1) ≤ 104
  · rw [if_pos c] at H ⊢
    refine ⟨fun _ => ?_, fun x => absurd x (by decide)⟩
    show wbX12_readsFacet_1 (wpX12_readsFacet K) K (hq_st t B q (-1)) (uI (uI (uI (fun _ => 0) 1 a) 2 (nI q)) 3 0) (fun _ => 0) Q
    refine ⟨fun n => ?_, fun e => ?_⟩
    · have n : ¬ a = 24 := n
      rw [if_neg n] at H
      exact hre_mf_go hz hz160 (by omega) (z - q) q 0 K _ (by omega) (by omega) (by decide) rfl rfl H
    · have e : a = 24 := e
      rw [if_pos e] at H
      exact hre_failsT (kind := 4) (place := q) (by omega) (by omega) (by omega) (hre_bad hz hz160 (by omega) (by omega) (hs_nI_neg (by omega)) (H.1 (fun w => absurd ((nI_eq (b := 0) (by omega) (by omega)).mp w) (by omega))))
  · rw [if_neg c] at H ⊢
    refine ⟨fun x => absurd rfl x, fun _ => hre_failsT (kind := 1) (place := q) (by omega) (by omega) (by omega) ?_⟩
    show wbX12_readsFacet_1 (wpX12_readsFacet K) K (hq_st t B q (nI (8 * q + 1))) (uI (uI (uI (fun _ => 0) 1 a) 2 (nI q)) 3 0) (fun _ => 0) Q
    have bad : wpX12_readsFacet K 2 (hq_st t B q (nI (8 * q + 1))) (uI (uI (uI (fun _ => 0) 1 a) 2 (nI q)) 3 0) (fun _ => 0) Q := hre_bad hz hz160 (by omega) (by omega) (hs_nI_neg (by omega)) (H.1 (fun w => absurd ((nI_eq (b := 0) (by omega) (by omega)).mp w) (by omega)))
    exact ⟨fun _ => bad, fun _ => hre_failsF (hs_nI_neg (by omega)) (by omega) bad⟩
