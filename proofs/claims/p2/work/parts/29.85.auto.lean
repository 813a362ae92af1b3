/-! ===== auto answers alike ===== -/
theorem hpx_auto0 {K : Nat} {t : XT} {a : Int32} {Q : Int32 → XT → Prop} (h : wbX11_auto_0 (wpX11_auto (K + 1)) (K + 1) t (uI (fun _ => 0) 1 a) (fun _ => 0) Q) : wqX11_auto (K + 2) t a Q := h
theorem hpx_auto2 {K : Nat} {t : XT} {a : Int32} {Q : Int32 → XT → Prop} (h : wqX11_criticalOnes K t (fun r u => Q r u)) : wpX11_auto (K + 1) 2 t (uI (fun _ => 0) 1 a) (fun _ => 0) Q := h
theorem hpx_autoX0 {u t : XT} {L X P : Nat → Int32} {c K : Nat} {G : Nat → Prop} {Q : XT → Prop} (hE : hcE t L c) (hM : hmE u L c) (hL : hnL L c) (eG : G = fun k => hm_gone u k ≠ 0) (hX : hpX t c P G) (hg : hag u c P) (hK : 13000 ≤ K) (e : hao0 u c L c 0 P = X) (hQ : ∀ t', hpK t' = hpK t → hpX t' c X G → Q t') : wqX11_pairUpwards K t Q := by
  subst e
  subst eG
  exact hpx_up hE hM hL hX hg hK hQ
theorem hpx_autoX1 {u t : XT} {L X P : Nat → Int32} {c K : Nat} {G : Nat → Prop} {Q : XT → Prop} (hE : hcE t L c) (hM : hmE u L c) (hL : hnL L c) (eG : G = fun k => hm_gone u k ≠ 0) (hX : hpX t c P G) (hg : hag u c P) (hK : 13000 ≤ K) (e : hao1 u c L c P = X) (hQ : ∀ t', hpK t' = hpK t → hpX t' c X G → Q t') : wqX11_pairDownwards K t Q := by
  subst e
  subst eG
  exact hpx_dn hE hM hL hX hg hK hQ
theorem hpx_autoX2 {u t : XT} {L X P : Nat → Int32} {c K : Nat} {G : Nat → Prop} {Q : XT → Prop} (hE : hcE t L c) (hc : c ≤ 60) (eG : G = fun k => hm_gone u k ≠ 0) (hX : hpX t c P G) (hP : ∀ k, k < c → P k = -1) (hK : 600 ≤ K) (e : hpe L c 60 (fun k => ¬ hm_gone u k ≠ 0) P = X) (hQ : ∀ t', hpK t' = hpK t → hpX t' c X G → Q t') : wqX11_pairByPeeling K t Q := by
  subst e
  subst eG
  exact hpx_peel hE hc hX hP hK hQ
theorem hac_auto (n : Nat) (tx tm : XT) (p1 : Int32) (hJ : hAl (n + 1) tx tm) : ∃ k, wqX11_auto k tx p1 (fun r1 tx' => ∃ k', wqX12_auto k' tm p1 (fun r2 tm' => r1 = r2 ∧ hAl n tx' tm')) := by
  obtain ⟨hJ, c, L, hL, hE, hM, hP, hH, hK⟩ := hJ
  have hc := hL.1
  obtain ⟨n', hI⟩ := hal_inv hJ hM hc
  have hI0 := hI
  obtain ⟨_, _, _, hMt, hA, hn16, h4, _, _⟩ := hI
  obtain ⟨nh, e4, hHx⟩ := hH
  have nhn : nh = n' := (nI_eq (by have := hHx.1; omega) (by omega)).mp (e4.symm.trans h4)
  subst nhn
  obtain ⟨KA, hKA⟩ : ∃ KA, KA = 14000 := ⟨_, rfl⟩
  obtain ⟨KB, hKB⟩ : ∃ KB, KB = 80000 := ⟨_, rfl⟩
  refine hfi_auto (A := KA + 2) (B := KB) hJ hL hE hM ?_
  have hg : hag tm c (hq_clr c (hm_par tm)) := ⟨fun k hk => Or.inl (if_pos hk), hq_sub_acyc (t := tm) (fun _ => rfl) (fun j hj => Or.inl (if_pos hj)) hA⟩
  have E0 : p1 = 0 → hao0 tm c L c 0 (hq_clr c (hm_par tm)) = hAu tm c L p1 := fun e => by unfold hAu; rw [if_pos e]
  have E1 : ¬ p1 = 0 → p1 = 1 → hao1 tm c L c (hq_clr c (hm_par tm)) = hAu tm c L p1 := fun e e' => by unfold hAu; rw [if_neg e, if_pos e']
  have E2 : ¬ p1 = 0 → ¬ p1 = 1 → hpe L c 60 (fun k => ¬ hm_gone tm k ≠ 0) (hq_clr c (hm_par tm)) = hAu tm c L p1 := fun e e' => by unfold hAu; rw [if_neg e, if_neg e']
  have ref := fun (Q : Int32 → XT → Prop) => hmx_auto (a := p1) (Q := Q) hM hL hI0 (K := KB) (by omega)
  obtain ⟨X, hX⟩ : ∃ X, X = hAu tm c L p1 := ⟨_, rfl⟩
  rw [← hX] at E0 E1 E2 ref
  clear hX
  have none : ¬ (c ≠ 0 ∧ 0 ≤ p1 ∧ p1 ≤ 2) → wqX12_auto KB tm p1 (fun r2 tm' => (-1 : Int32) = r2 ∧ hPJ tx tm' c ∧ hHJ tx tm' c ∧ hKJ tx tm' c) :=
    fun no => ref _ (fun a1 a2 => absurd ⟨a1, a2⟩ no) (fun _ => ⟨rfl, hP, ⟨nh, e4, hHx⟩, hK⟩)
  refine hpx_auto0 ⟨fun z => none (fun w => Int32.not_le.mpr z w.2.1), fun nz => ⟨fun z => none (fun w => Int32.not_le.mpr z w.2.2), fun nz2 => ⟨fun c0 => ?_, fun z => none (fun w => w.1 ?_)⟩⟩⟩
  · have nz : ¬ p1 < 0 := nz
    have nz2 : ¬ (2 : Int32) < p1 := nz2
    have c0 : c ≠ 0 := fun q => c0 (by rw [hE.1, q]; rfl)
    refine hhx_save hHx hP hc (by omega) (fun t5 s5 j5 r5 h5 => ?_)
    have x5 := hpX_S s5 hP
    obtain ⟨G, eG⟩ : ∃ G : Nat → Prop, G = fun k => hm_gone tm k ≠ 0 := ⟨_, rfl⟩
    rw [← eG] at x5
    refine hpx_restart (G := G) x5.2.2.1 (by omega) (fun t6 k6 x6 => ?_)
    obtain ⟨P0, hP0⟩ : ∃ P0, P0 = hq_clr c (hm_par tm) := ⟨_, rfl⟩
    rw [← hP0] at E0 E1 E2 hg
    have p0 : ∀ k, k < c → P0 k = -1 := fun k hk => by rw [hP0]; exact if_pos hk
    have x6 : hpX t6 c P0 G := hpX_ext x6 p0 (fun _ _ => Iff.rfl)
    have hE6 : hcE t6 L c := hcE_K k6 (hcE_S s5 hE)
    clear hP0
    have fin : ∀ t7, hpK t7 = hpK t6 → hpX t7 c X G → wpX11_auto (KA + 1) 2 t7 (uI (fun _ => 0) 1 p1) (fun _ => 0) (fun r1 tx' => wqX12_auto KB tm p1 (fun r2 tm' => r1 = r2 ∧ hPJ tx' tm' c ∧ hHJ tx' tm' c ∧ hKJ tx' tm' c)) := by
      intro t7 k7 x7
      have k75 := k7.trans k6
      refine hpx_auto2 (hpx_criticalOnes x7 hc (by omega) ?_)
      have h7 := hhX_fr h5 (congrArg (fun q => q.1.2.1) k75) (congrArg (fun q => q.1.2.2.1) k75) (congrArg (fun q => q.2.1.2.2.2.1) k75) (congrArg (fun q => q.2.2.2.2.2) k75)
      have j7 : t7.2.1 6 = tx.2.1 6 := (congrArg (fun q => q.1.2.2.2) k75).trans j5
      have r7 : t7.2.2.1 10 = tx.2.2.1 10 := (congrArg (fun q => q.2.1.2.2.2.2) k75).trans r5
      refine ref _ (fun _ _ R hR t' a4 a8 a14 a15 a5 aP => ?_) (fun no => absurd ⟨c0, Int32.not_lt.mp nz, Int32.not_lt.mp nz2⟩ no)
      refine ⟨?_, ?_, hHJ_push hn16 hc h7 hR a4 a8, hKJ_fr hK j7 r7 a14 a15⟩
      · rw [eG]
      · have e1 : hm_gone t' = hm_gone tm := a5
        have e2 : hm_par t' = X := aP
        unfold hPJ
        rw [e1, e2, ← eG]
        exact x7
    refine ⟨fun a0 => ⟨fun a1 => ?_, fun a1 => ?_⟩, fun a0 => ?_⟩
    · exact hpx_autoX2 hE6 hc eG x6 p0 (by omega) (E2 a0 a1) (fun t7 k7 x7 => fin t7 k7 x7)
    · exact hpx_autoX1 hE6 hM hL eG x6 hg (by omega) (E1 a0 a1) (fun t7 k7 x7 => fin t7 k7 x7)
    · exact hpx_autoX0 hE6 hM hL eG x6 hg (by omega) (E0 a0) (fun t7 k7 x7 => fin t7 k7 x7)
  · exact (nI_eq (b := 0) (by omega) (by omega)).mp (hE.1.symm.trans z)
