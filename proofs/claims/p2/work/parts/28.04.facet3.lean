/-! ===== reading, exactly: a FACET read by the reference ===== -/
theorem hre_failsT {t : XT} {B : Nat → Int32} {p place kind K : Nat} {Q : XT → Prop} (hpl : place ≤ 160) (hk : kind ≤ 5) (hK : 1 ≤ K) (h : Q (hq_st t B p (nI (8 * place + kind)))) : wqX12_fails K (hq_st t B p (-1)) (nI kind) (nI place) Q := by
  obtain ⟨K, rfl⟩ : ∃ K', K = K' + 1 := ⟨K - 1, by omega⟩
  show wbX12_fails_0 (wpX12_fails K) K (hq_st t B p (-1)) (uI (uI (fun _ => 0) 1 (nI kind)) 2 (nI place)) (fun _ => 0) Q
  refine ⟨fun x => absurd rfl x, fun _ v2 e2 v3 e3 t4 e4 => ?_⟩
  have e3 : v3 = nI (8 * place + kind) := by
    rw [e3, e2]
    show (8 : Int32) * nI place + nI kind = _
    rw [hq_8 place (by omega)]; exact nI_add _ _
  rw [e4, e3, hq_st_v]
  exact h
theorem hre_failsF {t : XT} {B : Nat → Int32} {p K : Nat} {v a b : Int32} {Q : XT → Prop} (hv : v ≠ -1) (hK : 1 ≤ K) (h : Q (hq_st t B p v)) : wqX12_fails K (hq_st t B p v) a b Q := by
  obtain ⟨K, rfl⟩ : ∃ K', K = K' + 1 := ⟨K - 1, by omega⟩
  exact ⟨fun _ => h, fun x => absurd x hv⟩
theorem hre_takes {t : XT} {B : Nat → Int32} {p K : Nat} {v X : Int32} {Q : XT → Prop} (hK : 600 ≤ K) (hQ : ∀ B', hrt B B' X → Q (hq_st t B' p v)) : wqX12_takesSets K (hq_st t B p v) X Q := by
  obtain ⟨K, rfl⟩ : ∃ K', K = K' + 2 := ⟨K - 2, by omega⟩
  show wbX12_takesSets_0 (wpX12_takesSets (K + 1)) (K + 1) (hq_st t B p v) (uI (fun _ => 0) 1 X) (fun _ => 0) Q
  exact hq_takes_go2 (B := B) (X := X) hQ 255 1 (K + 1) _ B (by omega) (by omega) (by omega) rfl rfl (fun a ha => ⟨Or.inl, fun z => z.elim id (fun w => absurd w.2.1 (by omega))⟩)
def hrm (t : XT) (z : Nat) (B : Nat → Int32) (st : Nat) (o : Int32 × Nat × Int32) (Q : XT → Prop) : Prop :=
  (o.1 ≠ 0 → ∀ p', p' ≤ z → Q (hq_st t B p' o.1)) ∧ (o.1 = 0 → ∀ B', hrt B B' o.2.2 → (hq_N B' 255 ≤ 60 → Q (hq_st t B' (hre_sk (fun i => t.2.2.1 0 i &&& 255) (z - o.2.1) o.2.1) (-1))) ∧ (¬ hq_N B' 255 ≤ 60 → Q (hq_st t B' (hre_sk (fun i => t.2.2.1 0 i &&& 255) (z - o.2.1) o.2.1) (nI (8 * st + 5)))))
theorem hre_six {t : XT} {z : Nat} {Q : XT → Prop} (hz : t.1 0 = nI z) (hz160 : z ≤ 160) {B2 : Nat → Int32} {K2 p2 : Nat} {v2 : Int32} {li : Nat → Int32} (h1 : 250 ≤ K2) (h3 : p2 ≤ z) (h : Q (hq_st t B2 (hre_sk (fun i => t.2.2.1 0 i &&& 255) (z - p2) p2) v2)) : wpX12_readsFacet K2 6 (hq_st t B2 p2 v2) li (fun _ => 0) Q := by
  obtain ⟨K2, rfl⟩ : ∃ K', K2 = K' + 1 := ⟨K2 - 1, by omega⟩
  show wbX12_readsFacet_6 (wpX12_readsFacet K2) K2 (hq_st t B2 p2 v2) li (fun _ => 0) Q
  exact hre_blanks hz hz160 h3 (by omega) h
/-- once there is a FAULT -/
theorem hre_bad {t : XT} {B : Nat → Int32} {z : Nat} {Q : XT → Prop} (hz : t.1 0 = nI z) (hz160 : z ≤ 160) {K2 p2 : Nat} {v2 : Int32} {li : Nat → Int32} (h1 : 300 ≤ K2) (h3 : p2 ≤ z) (nv : v2 ≠ -1) (h : ∀ p', p' ≤ z → Q (hq_st t B p' v2)) : wpX12_readsFacet K2 2 (hq_st t B p2 v2) li (fun _ => 0) Q := by
  obtain ⟨K2, rfl⟩ : ∃ K', K2 = K' + 2 := ⟨K2 - 2, by omega⟩
  show wbX12_readsFacet_2 (wpX12_readsFacet (K2 + 1)) (K2 + 1) (hq_st t B p2 v2) li (fun _ => 0) Q
  refine hq_isRight (by omega) (fun x => absurd x nv) (fun _ => ⟨fun _ => ?_, fun x => absurd rfl x⟩)
  show wbX12_readsFacet_5 (wpX12_readsFacet K2) K2 (hq_st t B p2 v2) li (fun _ => 0) Q
  refine hq_isRight (by omega) (fun x => absurd x nv) (fun _ => ⟨fun _ => ?_, fun x => absurd rfl x⟩)
  have i := hre_sk_in (fun i => t.2.2.1 0 i &&& 255) (z - p2) p2
  exact hre_six hz hz160 (by omega) h3 (h _ (by omega))
theorem hre_five {t : XT} {B : Nat → Int32} {z : Nat} {Q : XT → Prop} (hz : t.1 0 = nI z) (hz160 : z ≤ 160) {st p s K2 : Nat} {li : Nat → Int32} (hst : st ≤ 160) (h1 : 1000 ≤ K2) (h3 : p ≤ z) (e2 : li 2 = nI st) (e3 : li 3 = nI s) (H : hrm t z B st (0, p, nI s) Q) : wpX12_readsFacet K2 5 (hq_st t B p (-1)) li (fun _ => 0) Q := by
  obtain ⟨K2, rfl⟩ : ∃ K', K2 = K' + 1 := ⟨K2 - 1, by omega⟩
  show wbX12_readsFacet_5 (wpX12_readsFacet K2) K2 (hq_st t B p (-1)) li (fun _ => 0) Q
  refine hq_isRight (by omega) (fun _ => ⟨fun x => absurd x (by decide), fun _ => ?_⟩) (fun x => absurd rfl x)
  rw [e3]
  refine hre_takes (by omega) (fun B' hB' => hq_toldMany (by omega) ?_)
  have n255 := hq_N_le (B := B') 255
  have h := H.2 rfl B' hB'
  refine ⟨fun y => hre_six hz hz160 (by omega) h3 (h.1 ?_), fun y => ?_⟩
  · have y : nI (hq_N B' 255) ≤ nI 60 := y
    have y := Int32.le_iff_toInt_le.mp y
    rw [nI_toInt (by omega), nI_toInt (by omega)] at y
    omega
  · rw [e2]
    exact hre_failsT (kind := 5) hst (by omega) (by omega) (hre_six hz hz160 (by omega) h3 (h.2 (fun q => y (show nI (hq_N B' 255) ≤ nI 60 from nI_le q (by omega)))))
theorem hre_mf_go {t : XT} {B : Nat → Int32} {z : Nat} {Q : XT → Prop} (hz : t.1 0 = nI z) (hz160 : z ≤ 160) {st : Nat} (hst : st ≤ 160) :
    ∀ (d p s K : Nat) (li : Nat → Int32), p + d = z → 4 * d + 1100 ≤ K → s < 256 → li 2 = nI st → li 3 = nI s → hrm t z B st (hrl (fun i => t.2.2.1 0 i &&& 255) d p (nI s)) Q → wpX12_readsFacet K 2 (hq_st t B p (-1)) li (fun _ => 0) Q := by
  intro d
  induction d with
  | zero =>
    intro p s K li hd hK hs e2 e3 H
    obtain ⟨K, rfl⟩ : ∃ K', K = K' + 1 := ⟨K - 1, by omega⟩
    show wbX12_readsFacet_2 (wpX12_readsFacet K) K (hq_st t B p (-1)) li (fun _ => 0) Q
    refine hq_isRight (by omega) (fun _ => ⟨fun x => absurd x (by decide), fun _ => ?_⟩) (fun x => absurd rfl x)
    refine hre_letterM hz hz160 (by omega) (by omega) ?_
    rw [if_neg (show ¬ p < z by omega), if_neg (show ¬ ((97 : Int32) ≤ -1 ∧ (-1 : Int32) ≤ 104) by decide)]
    exact ⟨fun _ => hre_five hz hz160 hst (by omega) (by omega) e2 e3 H, fun x => absurd rfl x⟩
  | succ d ih =>
    intro p s K li hd hK hs e2 e3 H
    obtain ⟨K, rfl⟩ : ∃ K', K = K' + 3 := ⟨K - 3, by omega⟩
    obtain ⟨b, hb⟩ : ∃ b, b = t.2.2.1 0 p &&& 255 := ⟨_, rfl⟩
    have H : hrm t z B st (if (97 : Int32) ≤ t.2.2.1 0 p &&& 255 ∧ t.2.2.1 0 p &&& 255 ≤ 104 then (if ¬ nI s &&& ((1 : Int32) <<< (((t.2.2.1 0 p &&& 255) - 97) &&& 31)) = 0 then (nI (8 * p + 2), p, nI s) else if hm_bc (nI s) = 5 then (nI (8 * p + 3), p, nI s) else hrl (fun i => t.2.2.1 0 i &&& 255) d (p + 1) (nI s ||| ((1 : Int32) <<< (((t.2.2.1 0 p &&& 255) - 97) &&& 31)))) else (0, p, nI s)) Q := H
    rw [← hb] at H
    show wbX12_readsFacet_2 (wpX12_readsFacet (K + 2)) (K + 2) (hq_st t B p (-1)) li (fun _ => 0) Q
    refine hq_isRight (by omega) (fun _ => ⟨fun x => absurd x (by decide), fun _ => ?_⟩) (fun x => absurd rfl x)
    refine hre_letterM hz hz160 (by omega) (by omega) ?_
    rw [if_pos (show p < z by omega), ← hb]
    by_cases c : (97 : Int32) ≤ b ∧ b ≤ 104
    · rw [if_pos c] at H ⊢
      refine ⟨fun x => absurd x (by decide), fun _ => hre_byte hz hz160 (by omega) (by omega) ?_⟩
      rw [if_pos (show p < z by omega), ← hb]
      intro v12 e12 v13 e13 v14 e14
      rw [e12] at e13
      rw [e3, e13] at e14
      obtain ⟨j, hj, ej⟩ := hre_bit c
      refine ⟨fun y => ?_, fun y => ?_⟩
      · rw [e14] at y
        rw [if_neg (fun q => q y)] at H
        show wbX12_readsFacet_3 (wpX12_readsFacet (K + 1)) (K + 1) (hq_st t B p (-1)) _ (fun _ => 0) Q
        unfold wbX12_readsFacet_3
        have f3 : uI li 4 v13 3 = nI s := e3
        rw [f3]
        refine hm_bitCount (by omega) ⟨fun n => ?_, fun n => ?_⟩
        · rw [if_neg n] at H
          obtain ⟨s', hs', es⟩ := hre_or hs hj
          rw [ej, es] at H
          show wbX12_readsFacet_4 (wpX12_readsFacet K) K (hq_st t B p (-1)) _ (fun _ => 0) Q
          intro v20 e20 v21 e21 t22 e22
          have e20 : v20 = nI s' := by
            rw [e20]
            show li 3 ||| v13 = nI s'
            rw [e3, e13, ej]; exact es
          have e21 : v21 = nI (p + 1) := e21.trans (nI_1 p)
          rw [e22, e21, hq_st_p]
          exact ih (p + 1) s' K _ (by omega) (by omega) hs' e2 e20 H
        · rw [if_pos n] at H
          refine hre_failsT (kind := 3) (place := p) (by omega) (by omega) (by omega) ?_
          show wbX12_readsFacet_4 (wpX12_readsFacet K) K (hq_st t B p (nI (8 * p + 3))) _ (fun _ => 0) Q
          intro v20 e20 v21 e21 t22 e22
          have e21 : v21 = nI (p + 1) := e21.trans (nI_1 p)
          rw [e22, e21, hq_st_p]
          exact hre_bad hz hz160 (by omega) (by omega) (hs_nI_neg (by omega)) (H.1 (fun q => absurd ((nI_eq (b := 0) (by omega) (by omega)).mp q) (by omega)))
      · rw [e14] at y
        rw [if_pos y] at H
        refine hre_failsT (kind := 2) (place := p) (by omega) (by omega) (by omega) ?_
        have bad : ∀ li', wpX12_readsFacet (K + 1) 4 (hq_st t B p (nI (8 * p + 2))) li' (fun _ => 0) Q := by
          intro li'
          show wbX12_readsFacet_4 (wpX12_readsFacet K) K (hq_st t B p (nI (8 * p + 2))) li' (fun _ => 0) Q
          intro v20 e20 v21 e21 t22 e22
          have e21 : v21 = nI (p + 1) := e21.trans (nI_1 p)
          rw [e22, e21, hq_st_p]
          exact hre_bad hz hz160 (by omega) (by omega) (hs_nI_neg (by omega)) (H.1 (fun q => absurd ((nI_eq (b := 0) (by omega) (by omega)).mp q) (by omega)))
        show wbX12_readsFacet_3 (wpX12_readsFacet (K + 1)) (K + 1) (hq_st t B p (nI (8 * p + 2))) _ (fun _ => 0) Q
        exact hm_bitCount (by omega) ⟨fun _ => bad _, fun _ => hre_failsF (hs_nI_neg (by omega)) (by omega) (bad _)⟩
    · rw [if_neg c] at H ⊢
      exact ⟨fun _ => hre_five hz hz160 hst (by omega) (by omega) e2 e3 H, fun x => absurd rfl x⟩
