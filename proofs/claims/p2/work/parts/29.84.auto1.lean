/-! ===== the reference's auto, exactly ===== -/
theorem hmx_auto_2 {K : Nat} {t : XT} {a : Int32} {Q : Int32 → XT → Prop} (h : wqX12_criticalMany K t (fun r u => Q r u)) : wpX12_auto (K + 1) 2 t (uI (fun _ => 0) 1 a) (fun _ => 0) Q := h
theorem hmx_auto {t : XT} {L : Nat → Int32} {c n K : Nat} {a : Int32} {Q : Int32 → XT → Prop} (hM : hmE t L c) (hL : hnL L c) (hI : hq_inv t c n) (hK : 80000 ≤ K)
    (h1 : c ≠ 0 → (0 ≤ a ∧ a ≤ 2) → ∀ (R : Nat → Int32), (∀ i, i < (if n = 16 then 16 else n + 1) → ∀ k, k < 60 → R (120 * i + k) = hhP n (fun i k => t.2.2.1 8 (120 * i + k)) (t.2.2.1 4) i k ∧ (R (120 * i + 60 + k) = 1 ↔ hhP n (fun i k => t.2.2.1 8 (120 * i + 60 + k) = 1) (fun k => t.2.2.1 5 k ≠ 0) i k)) →
      ∀ t', t'.1 4 = nI (if n = 16 then 16 else n + 1) → t'.2.2.1 8 = R → t'.2.2.1 14 = t.2.2.1 14 → t'.2.2.1 15 = t.2.2.1 15 → t'.2.2.1 5 = t.2.2.1 5 → t'.2.2.1 4 = hAu t c L a → Q (hm_cnt (fun k => hm_ind (¬ hm_gone t k ≠ 0 ∧ hAu t c L a k = -1)) c) t')
    (h0 : ¬ (c ≠ 0 ∧ 0 ≤ a ∧ a ≤ 2) → Q (-1) t) : wqX12_auto K t a Q := by
  have hc := hL.1
  obtain ⟨_, _, _, hMt, hA, hn16, h4, _, _⟩ := hI
  obtain ⟨K, rfl⟩ : ∃ K', K = K' + 2 := ⟨K - 2, by omega⟩
  have out : ¬ (c ≠ 0 ∧ 0 ≤ a ∧ a ≤ 2) → wpX12_auto (K + 1) 1 t (uI (fun _ => 0) 1 a) (fun _ => 0) Q := h0
  show wbX12_auto_0 (wpX12_auto (K + 1)) (K + 1) t (uI (fun _ => 0) 1 a) (fun _ => 0) Q
  refine ⟨fun z => out (fun w => w.1 ?_), fun nz => hm_in (by omega) ⟨fun y => ?_, fun y => out (fun w => ?_)⟩⟩
  · exact (nI_eq (b := 0) (by omega) (by omega)).mp (hM.1.symm.trans z)
  · have y : ¬ (if (0 : Int32) ≤ a ∧ a ≤ 2 then (1 : Int32) else 0) = 0 := y
    have ha : (0 : Int32) ≤ a ∧ a ≤ 2 := Classical.byContradiction (fun q => y (if_neg q))
    have c0 : c ≠ 0 := fun q => nz (by rw [hM.1, q]; rfl)
    refine hmx_remembers h4 hn16 (by omega) (fun R hR => ?_)
    have g1 := h1 c0 ha R hR
    clear h1 h0 out
    obtain ⟨x, hx⟩ : ∃ x, x = nI (if n = 16 then 16 else n + 1) := ⟨_, rfl⟩
    rw [← hx] at g1 ⊢
    have hg : hag (sI (sA t 8 R) 4 x) c (hq_clr c (hm_par t)) := ⟨fun k hk => Or.inl (if_pos hk), hq_sub_acyc (t := t) (fun _ => rfl) (fun j hj => Or.inl (if_pos hj)) hA⟩
    have hM' : hmE (sI (sA t 8 R) 4 x) L c := hM
    have E0 : a = 0 → hao0 (sI (sA t 8 R) 4 x) c L c 0 (hq_clr c (hm_par t)) = hAu t c L a := fun e => hAu_0 e
    have E1 : ¬ a = 0 → a = 1 → hao1 (sI (sA t 8 R) 4 x) c L c (hq_clr c (hm_par t)) = hAu t c L a := fun e e' => hAu_1 e e'
    have E2 : ¬ a = 0 → ¬ a = 1 → hpe L c 60 (fun k => ¬ hm_gone t k ≠ 0) (hq_clr c (hq_clr c (hm_par t))) = hAu t c L a := fun e e' => hAu_2 e e'
    have f4 : (sI (sA t 8 R) 4 x).1 4 = x := rfl
    have f8 : (sI (sA t 8 R) 4 x).2.2.1 8 = R := rfl
    have f14 : (sI (sA t 8 R) 4 x).2.2.1 14 = t.2.2.1 14 := rfl
    have f15 : (sI (sA t 8 R) 4 x).2.2.1 15 = t.2.2.1 15 := rfl
    have f5 : hm_gone (sI (sA t 8 R) 4 x) = hm_gone t := rfl
    have f6 : (sI (sA t 8 R) 4 x).2.2.1 4 = hm_par t := rfl
    obtain ⟨X, hX⟩ : ∃ X, X = hAu t c L a := ⟨_, rfl⟩
    rw [← hX] at g1 E0 E1 E2
    obtain ⟨u, hu⟩ : ∃ u, u = sI (sA t 8 R) 4 x := ⟨_, rfl⟩
    rw [← hu] at hg hM' E0 E1 f4 f8 f14 f15 f5 f6 ⊢
    clear hu hX hx
    obtain ⟨G, hG⟩ : ∃ G, G = hm_gone t := ⟨_, rfl⟩
    have g1 : ∀ t', t'.1 4 = x → t'.2.2.1 8 = R → t'.2.2.1 14 = t.2.2.1 14 → t'.2.2.1 15 = t.2.2.1 15 → t'.2.2.1 5 = t.2.2.1 5 → t'.2.2.1 4 = X → Q (hm_cnt (fun k => hm_ind (¬ hm_gone t k ≠ 0 ∧ X k = -1)) c) t' := g1
    refine hq_clearsPairs (t := u) hM'.1 hc (by omega) ?_
    rw [f6]
    have two : ∀ t', t'.1 3 = nI c → t'.1 4 = x → t'.2.2.1 8 = R → t'.2.2.1 14 = t.2.2.1 14 → t'.2.2.1 15 = t.2.2.1 15 → hm_gone t' = hm_gone t → t'.2.2.1 4 = X → wpX12_auto (K + 1) 2 t' (uI (fun _ => 0) 1 a) (fun _ => 0) Q := by
      intro t' a3 a4 a8 a14 a15 a5 aP
      refine hmx_auto_2 (hmx_crit a3 hc (by omega) ?_)
      have q := g1 t' a4 a8 a14 a15 a5 aP
      have e2 : hm_par t' = X := aP
      rw [a5, e2]
      exact q
    obtain ⟨P0, hP0⟩ : ∃ P0, P0 = hq_clr c (hm_par t) := ⟨_, rfl⟩
    rw [← hP0] at hg E0 E1 E2 ⊢
    refine ⟨fun a0 => ⟨fun a1 => ?_, fun a1 => ?_⟩, fun a0 => ?_⟩
    · exact hmx_autoX2 (P := P0) hM' hL (by omega) f5 (E2 a0 a1) (fun o => two (hso u X o) hM'.1 f4 f8 f14 f15 f5 rfl)
    · exact hmx_autoX1 (P := P0) hM' hL hg (by omega) (E1 a0 a1) (fun F' => two (hsv u X F') hM'.1 f4 f8 f14 f15 f5 rfl)
    · exact hmx_autoX0 (P := P0) hM' hL hg (by omega) (E0 a0) (fun F' => two (hsv u X F') hM'.1 f4 f8 f14 f15 f5 rfl)
  · have y : (if (0 : Int32) ≤ a ∧ a ≤ 2 then (1 : Int32) else 0) = 0 := y
    rw [if_pos w.2] at y
    exact absurd y (by decide)
