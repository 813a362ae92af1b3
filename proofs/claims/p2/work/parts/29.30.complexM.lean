/-! ===== complex, exactly: of the reference ===== -/
theorem hrd_nn {D : Nat → Int32} {y : Nat} (hy : y ≤ 160) : ∀ (d f p : Nat) (l : List Int32), p ≤ y → (hrd D y d f p l).1 ≠ -1 := by
  intro d
  induction d with
  | zero => exact fun f p l hp => hs_nI_neg (by omega)
  | succ d ih =>
    intro f p l hp
    unfold hrd
    have isk := hre_sk_in D (y - p) p
    obtain ⟨q, hq⟩ : ∃ q, q = hre_sk D (y - p) p := ⟨_, rfl⟩
    rw [← hq] at isk ⊢
    obtain ⟨o, ho⟩ : ∃ o, o = hrf D y (nI f) q := ⟨_, rfl⟩
    have io := @hrf_in D y q (nI f) (by omega)
    have nn := @hrf_nn D y q (nI f) (by omega) hy
    rw [← ho] at io nn ⊢
    have iw := hre_sk_in D (y - o.2.1) o.2.1
    obtain ⟨w, hw⟩ : ∃ w, w = hre_sk D (y - o.2.1) o.2.1 := ⟨_, rfl⟩
    rw [← hw] at iw ⊢
    by_cases c1 : o.1 = 0
    · rw [if_neg (fun z => z c1)]
      by_cases c2 : hq_N (hrT (o.2.2 :: l)) 255 ≤ 60
      · rw [if_neg (fun z => z c2)]
        by_cases c3 : w = y
        · rw [if_pos c3]; exact show (0 : Int32) ≠ -1 by decide
        · rw [if_neg c3]
          by_cases c4 : D w = 44
          · rw [if_pos c4]; exact ih (f + 1) (w + 1) _ (by omega)
          · rw [if_neg c4]; exact hs_nI_neg (by omega)
      · rw [if_pos c2]; exact hs_nI_neg (by omega)
    · rw [if_pos c1]; exact nn
theorem hrd_ext {D E : Nat → Int32} {y : Nat} (hy : y ≤ 160) (h : ∀ i, i < y → D i = E i) : ∀ (d f p : Nat) (l : List Int32), p ≤ y → hrd D y d f p l = hrd E y d f p l := by
  intro d
  induction d with
  | zero => exact fun f p l _ => rfl
  | succ d ih =>
    intro f p l hp
    unfold hrd
    have isk := hre_sk_in D (y - p) p
    rw [hre_sk_ext (D := D) (E := E) (y - p) p (fun i hi => h i (by omega))] at isk ⊢
    obtain ⟨q, hq⟩ : ∃ q, q = hre_sk E (y - p) p := ⟨_, rfl⟩
    rw [← hq] at isk ⊢
    rw [hrf_ext (D := D) (E := E) (show q ≤ y by omega) h]
    obtain ⟨o, ho⟩ : ∃ o, o = hrf E y (nI f) q := ⟨_, rfl⟩
    have io := @hrf_in E y q (nI f) (by omega)
    rw [← ho] at io ⊢
    have iw := hre_sk_in D (y - o.2.1) o.2.1
    rw [hre_sk_ext (D := D) (E := E) (y - o.2.1) o.2.1 (fun i hi => h i (by omega))] at iw ⊢
    obtain ⟨w, hw⟩ : ∃ w, w = hre_sk E (y - o.2.1) o.2.1 := ⟨_, rfl⟩
    rw [← hw] at iw ⊢
    by_cases c3 : w = y
    · rw [if_pos c3, if_pos c3]
    · rw [if_neg c3, if_neg c3, h w (by omega), ih (f + 1) (w + 1) _ (by omega)]
/-- behind complex: no PAIRS, none is GONE, nothing to UNDO, nothing kept -/
def hmP (t : XT) (c : Nat) : Prop := (∀ k, k < c → t.2.2.1 4 k = -1) ∧ (∀ k, k < c → t.2.2.1 5 k = 0) ∧ t.1 4 = 0 ∧ ∀ k, k < 3 → t.2.2.1 14 k = 0
def hmE (t : XT) (L : Nat → Int32) (c : Nat) : Prop := t.1 3 = nI c ∧ (∀ k, k < c → t.2.2.1 2 k = L k) ∧ (c ≠ 0 → ∀ a, a < 256 → t.2.2.1 3 a = hnO L c a)
theorem hme_clear {t : XT} {lj : Nat → Int64} {Q : Int32 → XT → Prop} (M : Nat)
    (cont : ∀ (K' : Nat) (B li' : Nat → Int32), M ≤ K' → li' 1 = nI 0 → li' 2 = 1 → (∀ a, a < 256 → B a = 0) → wpX12_complex K' 2 (hq_st t B 0 (-1)) li' lj Q) :
    ∀ (d i K : Nat) (B li : Nat → Int32), i + d = 256 → d + M + 1 ≤ K → li 1 = nI i → (∀ a, a < i → B a = 0) → wpX12_complex K 1 (hq_st t B 0 (-1)) li lj Q := by
  intro d
  induction d with
  | zero =>
    intro i K B li hd hK e1 hB
    obtain ⟨K, rfl⟩ : ∃ K', K = K' + 1 := ⟨K - 1, by omega⟩
    obtain rfl : i = 256 := by omega
    show wbX12_complex_1 (wpX12_complex K) K (hq_st t B 0 (-1)) li lj Q
    exact ⟨fun _ => cont K B _ (by omega) rfl rfl hB, fun x => absurd (show nI 256 ≤ li 1 by rw [e1]; exact nI_le (by omega) (by omega)) x⟩
  | succ d ih =>
    intro i K B li hd hK e1 hB
    obtain ⟨K, rfl⟩ : ∃ K', K = K' + 1 := ⟨K - 1, by omega⟩
    have ci : (nI i).toNatClampNeg = i := nI_clamp (by omega)
    show wbX12_complex_1 (wpX12_complex K) K (hq_st t B 0 (-1)) li lj Q
    unfold wbX12_complex_1
    rw [e1]
    refine ⟨fun x => absurd (show nI 256 ≤ nI i from x) (nI_ge (by omega) (by omega)), fun _ => ⟨vp_in_nI (by omega) (by decide), fun t4 e4 v5 e5 => ?_⟩⟩
    rw [ci, hq_st_B] at e4
    have e4 : t4 = hq_st t (upd B i 0) 0 (-1) := e4
    rw [e4]
    refine ih (i + 1) K _ _ (by omega) (by omega) (e5.trans (hs_inc i)) (fun a ha => ?_)
    by_cases x : a = i
    · exact if_pos x
    · exact (if_neg x).trans (hB a (by omega))
theorem hme_complex {t : XT} {z K : Nat} {o : Int32 × List Int32} {Q : Int32 → XT → Prop} (hz : t.1 0 = nI z) (hz160 : z ≤ 160) (ho : hrd (fun i => t.2.2.1 0 i &&& 255) z 25 0 0 [] = o) (hK : 30000 ≤ K)
    (H1 : ¬ o.1 = 0 → ∀ B' p', Q (-2 - o.1) (sI (hq_st t B' p' o.1) 0 0))
    (H0 : o.1 = 0 → ∀ B' X t', hrz B' (hrT o.2) → hnS B' 5 1 (t.2.2.1 2, 0) = X → hmE t' X.1 X.2 → hq_JN B' 6 1 X.1 X.2 → hmP t' X.2 → X.2 ≤ 60 → Q (nI X.2) t') : wqX12_complex K t Q := by
  obtain ⟨K, rfl⟩ : ∃ K', K = K' + 1 := ⟨K - 1, by omega⟩
  show wbX12_complex_0 (wpX12_complex K) K t (fun _ => 0) (fun _ => 0) Q
  intro t1 e1 t2 e2
  have e2 : t2 = hq_st t (t.2.2.1 1) 0 (-1) := by
    rw [e2, e1]
    show sI (sI t 1 0) 2 (-1) = sI (sI (sA t 1 (t.2.2.1 1)) 1 (nI 0)) 2 (-1)
    rw [hm_sA0]; rfl
  rw [e2]
  obtain ⟨M, hM⟩ : ∃ M, M = 21000 := ⟨_, rfl⟩
  refine hme_clear M (fun K' B li' h1 b1 b2 hB => ?_) 256 0 K _ _ (by omega) (by omega) rfl (fun a ha => absurd ha (by omega))
  have nn := hrd_nn (D := fun i => t.2.2.1 0 i &&& 255) hz160 25 0 0 [] (by omega)
  rw [ho] at nn
  refine hre_complex_go hz hz160 25 0 0 K' [] B li' (by omega) (by omega) (by omega) (by omega) b1 b2 (fun a ha => ?_) ?_
  · rw [hB a ha]; exact Iff.rfl
  rw [ho]
  refine ⟨fun no B' p' K2 li h2 hp => ?_, fun yes B' p' K2 li h2 hp hB' => ?_⟩
  · obtain ⟨K2, rfl⟩ : ∃ K', K2 = K' + 1 := ⟨K2 - 1, by omega⟩
    show wbX12_complex_5 (wpX12_complex K2) K2 (hq_st t B' p' o.1) li (fun _ => 0) Q
    intro t21 e21
    have q := H1 no B' p'
    rw [e21]
    rw [hq_st_0] at q ⊢
    exact hq_isRight (by omega) (fun w => absurd w nn) (fun _ => ⟨fun x => absurd rfl x, fun _ v25 e25 => by rw [e25]; exact q⟩)
  · obtain ⟨K2, rfl⟩ : ∃ K', K2 = K' + 1 := ⟨K2 - 1, by omega⟩
    show wbX12_complex_5 (wpX12_complex K2) K2 (hq_st t B' p' (-1)) li (fun _ => 0) Q
    intro t21 e21
    rw [e21, hq_st_0]
    refine hq_isRight (by omega) (fun _ => ⟨fun _ => ?_, fun x => absurd x (by decide)⟩) (fun w => absurd rfl w)
    have n60 : hq_N B' 255 ≤ 60 := by
      rw [hrz_N hB' 255 (by decide), ← ho]
      exact hrd_le hz160 25 0 0 [] (by omega) (by rw [ho]; exact yes)
    refine hrn_numbers (B := B') (X := hnS B' 5 1 (t.2.2.1 2, 0)) rfl n60 rfl (by omega) (fun t' a1 a2 a3 a4 a5 a6 a7 a8 a9 => ?_)
    rw [a3]
    exact H0 yes B' _ t' hB' rfl ⟨a3, fun k _ => congrFun a4 k, fun _ a ha => a5 a ha⟩ a2 ⟨a6, a7, a8, a9⟩ a1
