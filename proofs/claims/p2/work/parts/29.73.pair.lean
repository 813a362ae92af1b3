/-! ===== pair answers alike ===== -/
theorem hpx_isCritical {t : XT} {c j K : Nat} {P : Nat → Int32} {G : Nat → Prop} {Q : Int32 → XT → Prop} (h : hpX t c P G) (hc : c ≤ 60) (hj : j < c) (hK : 3 ≤ K) (h1 : ¬ G j → P j = -1 → Q 1 t) (h0 : ¬ (¬ G j ∧ P j = -1) → Q 0 t) : wqX6_isCritical K t (nI j) Q := by
  obtain ⟨K, rfl⟩ : ∃ K', K = K' + 1 := ⟨K - 1, by omega⟩
  show wbX6_isCritical_0 (wpX6_isCritical K) K t (uI (fun _ => 0) 1 (nI j)) (fun _ => 0) Q
  refine hpx_unpaired h hc (by omega) (fun v hv => hw_isIn (by omega) (by omega) (fun y => ⟨Or.inr rfl, h1 ((hv j).mp y).2.1 ((hv j).mp y).2.2⟩) (fun y => ⟨Or.inl rfl, h0 (fun w => absurd ((hv j).mpr ⟨hj, w⟩) (by rw [y]; decide))⟩))
theorem hpx_pair0 {K : Nat} {t : XT} {a b : Int32} {Q : Int32 → XT → Prop} (h : wbX11_pair_0 (wpX11_pair (K + 1)) (K + 1) t (uI (uI (fun _ => 0) 1 a) 2 b) (fun _ => 0) Q) : wqX11_pair (K + 2) t a b Q := h
/-- the reference's pair: to be done, refused, nothing -/
theorem hmx_pair {t : XT} {L : Nat → Int32} {c n K : Nat} {a b : Int32} {Q : Int32 → XT → Prop} (hM : hmE t L c) (hL : hnL L c) (hI : hq_inv t c n) (hK : 40000 ≤ K)
    (h2 : ∀ f s, f < c → s < c → a = nI f → b = nI s → hm_crit t f → hm_crit t s → hnF L s f → hm_acyc (sA t 4 (hq_two (t.2.2.1 4) f s)) c → ∀ (F R : Nat → Int32), (∀ i, i < (if n = 16 then 16 else n + 1) → ∀ k, k < 60 → R (120 * i + k) = hhP n (fun i k => t.2.2.1 8 (120 * i + k)) (t.2.2.1 4) i k ∧ (R (120 * i + 60 + k) = 1 ↔ hhP n (fun i k => t.2.2.1 8 (120 * i + 60 + k) = 1) (fun k => t.2.2.1 5 k ≠ 0) i k)) →
      Q (hm_cnt (fun k => hm_ind (¬ hm_gone t k ≠ 0 ∧ hq_two (hm_par t) f s k = -1)) c) (sA (sI (sA (sA t 7 F) 8 R) 4 (nI (if n = 16 then 16 else n + 1))) 4 (hq_two (t.2.2.1 4) f s)))
    (h1 : ∀ f s, f < c → s < c → a = nI f → b = nI s → hm_crit t f → hm_crit t s → hnF L s f → ¬ hm_acyc (sA t 4 (hq_two (t.2.2.1 4) f s)) c → ∀ F, Q (-2) (sA t 7 F))
    (h0 : (∀ f s, f < c → s < c → a = nI f → b = nI s → ¬ (hm_crit t f ∧ hm_crit t s ∧ hnF L s f)) → Q (-1) t) : wqX12_pair K t a b Q := by
  have hc := hL.1
  obtain ⟨_, _, _, hMt, hA, hn16, h4, _, _⟩ := hI
  obtain ⟨K, rfl⟩ : ∃ K', K = K' + 2 := ⟨K - 2, by omega⟩
  have out : (∀ f s, f < c → s < c → a = nI f → b = nI s → ¬ (hm_crit t f ∧ hm_crit t s ∧ hnF L s f)) → wpX12_pair (K + 1) 1 t (uI (uI (fun _ => 0) 1 a) 2 b) (fun _ => 0) Q := h0
  have two : ∀ {f s f' s' : Nat}, f < c → s < c → f' < c → s' < c → a = nI f → b = nI s → a = nI f' → b = nI s' → f' = f ∧ s' = s := fun a1 a2 a3 a4 b1 b2 b3 b4 => ⟨(nI_eq (by omega) (by omega)).mp (b3.symm.trans b1), (nI_eq (by omega) (by omega)).mp (b4.symm.trans b2)⟩
  show wbX12_pair_0 (wpX12_pair (K + 1)) (K + 1) t (uI (uI (fun _ => 0) 1 a) 2 b) (fun _ => 0) Q
  refine hm_isThere hM.1 hc (by omega) (fun f hf ea gf => ⟨fun z => absurd z (by decide), fun _ => ?_⟩) (fun no => ⟨fun _ => out (fun f s hf hs ea eb w => no f hf ea w.1.1), fun z => absurd rfl z⟩)
  refine hm_isThere hM.1 hc (by omega) (fun s hs eb gs => ⟨fun z => absurd z (by decide), fun _ => ?_⟩) (fun no => ⟨fun _ => out (fun f s hf hs ea eb w => no s hs eb w.2.1.1), fun z => absurd rfl z⟩)
  have ea : a = nI f := ea
  have eb : b = nI s := eb
  have out2 : ¬ (hm_crit t f ∧ hm_crit t s ∧ hnF L s f) → wpX12_pair (K + 1) 1 t (uI (uI (fun _ => 0) 1 a) 2 b) (fun _ => 0) Q := fun no => out (fun f' s' a1 a2 a3 a4 w => by
    obtain ⟨e1, e2⟩ := two hf hs a1 a2 ea eb a3 a4
    rw [e1, e2] at w
    exact no w)
  have hF := hf_face hM hL hf hs
  have g2 := h2 f s hf hs ea eb
  have g1 := h1 f s hf hs ea eb
  clear h2 h1 h0 out two
  subst ea
  subst eb
  refine hm_isFace (by omega) (by omega) (by omega) (fun fc => ⟨fun z => absurd z (by decide), fun _ => ?_⟩) (fun nf => ⟨fun _ => out2 (fun w => nf (hF.mpr w.2.2)), fun z => absurd rfl z⟩)
  have fF := hF.mp fc
  have hfs : f < s := fF.1
  refine hq_isFree (by omega) (by omega) (by omega) (fun ef es => ⟨fun _ => ?_, fun z => absurd z (by decide)⟩) (fun nf => ⟨fun z => absurd rfl z, fun _ => out2 (fun w => nf ⟨w.1.2, w.2.1.2⟩)⟩)
  have cf : (nI f).toNatClampNeg = f := nI_clamp (by omega)
  have cs : (nI s).toNatClampNeg = s := nI_clamp (by omega)
  refine hmy_couples hM.1 hc hf hs hfs fc hMt ef es (by omega) (fun hA1 F => ⟨fun _ => ?_, fun z => absurd z (by decide)⟩) (fun nA F => ⟨fun z => absurd rfl z, fun _ => g1 ⟨gf, ef⟩ ⟨gs, es⟩ fF nA F⟩)
  have hM2 := hq_match_two hc hf hs hfs fc hMt ef es
  refine hq_frees (t := sA (sA t 4 (hq_two (t.2.2.1 4) f s)) 7 F) (m := c) hc hf hM2 (by omega) ?_
  have p1 : hq_free (hq_two (t.2.2.1 4) f s) f = t.2.2.1 4 := by
    have e : hq_two (t.2.2.1 4) f s f = nI s := by
      show (if f = s then nI f else if f = f then nI s else t.2.2.1 4 f) = nI s
      rw [if_neg (by omega), if_pos rfl]
    unfold hq_free
    rw [if_neg (show ¬ hq_two (t.2.2.1 4) f s f = -1 by rw [e]; exact hs_nI_neg (by omega)), e, cs]
    funext j
    show (if j = f then (-1 : Int32) else if j = s then -1 else if j = s then nI f else if j = f then nI s else t.2.2.1 4 j) = t.2.2.1 4 j
    by_cases x : j = f
    · rw [if_pos x, x]; exact ef.symm
    · rw [if_neg x]
      by_cases y : j = s
      · rw [if_pos y, y]; exact es.symm
      · rw [if_neg y, if_neg y, if_neg x]
  have st : sA (sA (sA t 4 (hq_two (t.2.2.1 4) f s)) 7 F) 4 (hq_free ((sA (sA t 4 (hq_two (t.2.2.1 4) f s)) 7 F).2.2.1 4) f) = sA t 7 F := by
    show sA (sA (sA t 4 (hq_two (t.2.2.1 4) f s)) 7 F) 4 (hq_free (hq_two (t.2.2.1 4) f s) f) = _
    rw [p1, hq_com, hm_sA0]
  rw [st]
  refine hmx_remembers (t := sA t 7 F) h4 hn16 (by omega) (fun R hR => ⟨vp_in_nI (n := f) (by omega) (by decide), fun t13 e13 => ⟨vp_in_nI (n := s) (by omega) (by decide), fun t14 e14 => ?_⟩⟩)
  have e14 : t14 = sA (sI (sA (sA t 7 F) 8 R) 4 (nI (if n = 16 then 16 else n + 1))) 4 (hq_two (t.2.2.1 4) f s) := by
    rw [e14, e13]
    show sA (sA (sI (sA (sA t 7 F) 8 R) 4 (nI (if n = 16 then 16 else n + 1))) 4 (upd (t.2.2.1 4) (nI f).toNatClampNeg (nI s))) 4 (upd (upd (t.2.2.1 4) (nI f).toNatClampNeg (nI s)) (nI s).toNatClampNeg (nI f)) = _
    rw [hm_sAA, cf, cs]; rfl
  rw [e14]
  refine hmx_crit (t := sA (sI (sA (sA t 7 F) 8 R) 4 (nI (if n = 16 then 16 else n + 1))) 4 (hq_two (t.2.2.1 4) f s)) hM.1 hc (by omega) ?_
  exact g2 ⟨gf, ef⟩ ⟨gs, es⟩ fF hA1 F R hR
theorem hac_pair (n : Nat) (tx tm : XT) (p1 p2 : Int32) (hJ : hAl (n + 1) tx tm) : ∃ k, wqX11_pair k tx p1 p2 (fun r1 tx' => ∃ k', wqX12_pair k' tm p1 p2 (fun r2 tm' => r1 = r2 ∧ hAl n tx' tm')) := by
  obtain ⟨hJ, c, L, hL, hE, hM, hP, hH, hK⟩ := hJ
  have hc := hL.1
  obtain ⟨n', hI⟩ := hal_inv hJ hM hc
  have hI0 := hI
  obtain ⟨_, _, _, hMt, hA, hn16, h4, _, _⟩ := hI
  obtain ⟨nh, e4, hHx⟩ := hH
  have nhn : nh = n' := (nI_eq (by have := hHx.1; omega) (by omega)).mp (e4.symm.trans h4)
  subst nhn
  obtain ⟨KA, hKA⟩ : ∃ KA, KA = 300 := ⟨_, rfl⟩
  obtain ⟨KB, hKB⟩ : ∃ KB, KB = 40000 := ⟨_, rfl⟩
  refine hfi_pair (A := KA + 2) (B := KB) hJ hL hE hM ?_
  have none : (∀ f s, f < c → s < c → p1 = nI f → p2 = nI s → ¬ (hm_crit tm f ∧ hm_crit tm s ∧ hnF L s f)) → wqX12_pair KB tm p1 p2 (fun r2 tm' => (-1 : Int32) = r2 ∧ hPJ tx tm' c ∧ hHJ tx tm' c ∧ hKJ tx tm' c) := by
    intro no
    exact hmx_pair hM hL hI0 (by omega) (fun f s a1 a2 a3 a4 a5 a6 a7 => absurd ⟨a5, a6, a7⟩ (no f s a1 a2 a3 a4)) (fun f s a1 a2 a3 a4 a5 a6 a7 => absurd ⟨a5, a6, a7⟩ (no f s a1 a2 a3 a4)) (fun _ => ⟨rfl, hP, ⟨nh, e4, hHx⟩, hK⟩)
  refine hpx_pair0 ?_
  refine hpx_isThere hE.1 hP hc (by omega) (fun f hf ea gf => ⟨fun z => absurd z (by decide), fun _ => ?_⟩) (fun no => ⟨fun _ => none (fun f s hf hs ea eb w => (no f hf ea) w.1.1), fun z => absurd rfl z⟩)
  refine hpx_isThere hE.1 hP hc (by omega) (fun s hs eb gs => ⟨fun z => absurd z (by decide), fun _ => ?_⟩) (fun no => ⟨fun _ => none (fun f s hf hs ea eb w => (no s hs eb) w.2.1.1), fun z => absurd rfl z⟩)
  have ea : p1 = nI f := ea
  have eb : p2 = nI s := eb
  subst ea
  subst eb
  have none2 : ¬ (hm_crit tm f ∧ hm_crit tm s ∧ hnF L s f) → wqX12_pair KB tm (nI f) (nI s) (fun r2 tm' => (-1 : Int32) = r2 ∧ hPJ tx tm' c ∧ hHJ tx tm' c ∧ hKJ tx tm' c) := fun no => none (fun f' s' a1 a2 a3 a4 w => by
    have e1 : f' = f := (nI_eq (by omega) (by omega)).mp a3.symm
    have e2 : s' = s := (nI_eq (by omega) (by omega)).mp a4.symm
    rw [e1, e2] at w
    exact no w)
  have cs : (nI s).toNatClampNeg = s := nI_clamp (by omega)
  refine ⟨vp_in_nI (n := s) (by omega) (by decide), fun v5 e5 => ?_⟩
  have e5 : v5 = tx.2.2.2 0 s := e5.trans (congrArg (tx.2.2.2 0) cs)
  have b5 := hE.2.2.2.2.1 s f
  rw [← e5] at b5
  have og : ∀ j, ¬ hm_gone tm j ≠ 0 → hm_gone tm j = 0 := fun j w => Classical.byContradiction w
  refine hw_isIn (by omega) (by omega) (fun y => ⟨fun _ => ?_, fun z => absurd z (by decide)⟩) (fun y => ⟨fun z => absurd rfl z, fun _ => none2 (fun w => absurd (b5.mpr ⟨hs, w.2.2⟩) (by rw [y]; decide))⟩)
  have fF := (b5.mp y).2
  refine hpx_isCritical hP hc hf (by omega) (fun gf' ef => ⟨fun z => absurd z (by decide), fun _ => ?_⟩) (fun no => ⟨fun _ => none2 (fun w => no ⟨fun z => z w.1.1, w.1.2⟩), fun z => absurd rfl z⟩)
  refine hpx_isCritical hP hc hs (by omega) (fun gs' es => ⟨fun _ => ?_, fun z => absurd z (by decide)⟩) (fun no => ⟨fun z => absurd rfl z, fun _ => none2 (fun w => no ⟨fun z => z w.2.1.1, w.2.1.2⟩)⟩)
  have hfs : f < s := fF.1
  have one : ∀ {f' s' : Nat}, f' < c → s' < c → nI f = nI f' → nI s = nI s' → f' = f ∧ s' = s := fun a1 a2 b1 b2 => ⟨(nI_eq (by omega) (by omega)).mp b1.symm, (nI_eq (by omega) (by omega)).mp b2.symm⟩
  refine hst_acyc hE hP hM hL hMt hA hf hs hfs ef es (by omega) (fun hA1 => ⟨fun _ => ?_, fun z => absurd z (by decide)⟩) (fun nA => ⟨fun z => absurd rfl z, fun _ => ?_⟩)
  · refine hhx_save hHx hP hc (by omega) (fun t5 s5 j5 r5 h5 => hpx_unite (hpX_S s5 hP) hc hfs hs ef es (by omega) (fun t6 k6 x6 => hpx_criticalOnes x6 hc (by omega) ?_))
    have h6 := hhX_fr h5 (congrArg (fun q => q.1.2.1) k6) (congrArg (fun q => q.1.2.2.1) k6) (congrArg (fun q => q.2.1.2.2.2.1) k6) (congrArg (fun q => q.2.2.2.2.2) k6)
    have j6 : t6.2.1 6 = tx.2.1 6 := (congrArg (fun q => q.1.2.2.2) k6).trans j5
    have r6 : t6.2.2.1 10 = tx.2.2.1 10 := (congrArg (fun q => q.2.1.2.2.2.2) k6).trans r5
    refine hmx_pair hM hL hI0 (by omega) (fun f' s' a1 a2 a3 a4 a5 a6 a7 a8 F R hR => ?_) (fun f' s' a1 a2 a3 a4 a5 a6 a7 nA => ?_) (fun no => absurd ⟨⟨og f gf, ef⟩, ⟨og s gs, es⟩, fF⟩ (no f s hf hs rfl rfl))
    · obtain ⟨e1, e2⟩ := one a1 a2 a3 a4
      subst e1
      subst e2
      exact ⟨rfl, x6, hHJ_push hn16 hc h6 hR rfl rfl, hKJ_fr hK j6 r6 rfl rfl⟩
    · obtain ⟨e1, e2⟩ := one a1 a2 a3 a4
      subst e1
      subst e2
      exact absurd hA1 nA
  · refine hmx_pair hM hL hI0 (by omega) (fun f' s' a1 a2 a3 a4 a5 a6 a7 a8 => ?_) (fun f' s' a1 a2 a3 a4 a5 a6 a7 _ F => ⟨rfl, hP, ⟨nh, e4, hHx⟩, hK⟩) (fun no => absurd ⟨⟨og f gf, ef⟩, ⟨og s gs, es⟩, fF⟩ (no f s hf hs rfl rfl))
    obtain ⟨e1, e2⟩ := one a1 a2 a3 a4
    subst e1
    subst e2
    exact absurd a8 nA
