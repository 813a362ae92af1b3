/-! ===== paths answers alike ===== -/
def hEnds (tm : XT) (s e : Nat) : Prop := hm_crit tm s ∧ hm_crit tm e ∧ hm_dim tm s = hm_dim tm e + 1
theorem hmx_areEnds {t : XT} {m K : Nat} {a b : Int32} {Q : Int32 → XT → Prop} (hm : t.1 3 = nI m) (hm60 : m ≤ 60) (hK : 20 ≤ K) (h1 : ∀ s e, s < m → e < m → a = nI s → b = nI e → hEnds t s e → Q 1 t) (h0 : (∀ s e, s < m → e < m → a = nI s → b = nI e → ¬ hEnds t s e) → Q 0 t) : wqX12_areEnds K t a b Q := by
  obtain ⟨K, rfl⟩ : ∃ K', K = K' + 1 := ⟨K - 1, by omega⟩
  have out : (∀ s e, s < m → e < m → a = nI s → b = nI e → ¬ hEnds t s e) → wpX12_areEnds K 1 t (uI (uI (fun _ => 0) 1 a) 2 b) (fun _ => 0) Q := by
    obtain ⟨K, rfl⟩ : ∃ K', K = K' + 1 := ⟨K - 1, by omega⟩
    exact h0
  show wbX12_areEnds_0 (wpX12_areEnds K) K t (uI (uI (fun _ => 0) 1 a) 2 b) (fun _ => 0) Q
  refine hm_isCritical hm hm60 (by omega) (fun s hs ea cs => ?_) (fun no => ⟨fun _ => out (fun s e hs he ea eb w => no s hs ea w.1), fun c => absurd rfl c⟩)
  refine ⟨fun c => absurd c (by decide), fun _ => ?_⟩
  refine hm_isCritical hm hm60 (by omega) (fun e he eb ce => ?_) (fun no => ⟨fun _ => out (fun s e hs he ea eb w => no e he eb w.2.1), fun c => absurd rfl c⟩)
  refine ⟨fun c => absurd c (by decide), fun _ => ?_⟩
  have ea : a = nI s := ea
  have eb : b = nI e := eb
  subst ea
  subst eb
  refine hm_dimOf (by omega) (by omega) ?_
  refine hm_dimOf (by omega) (by omega) ?_
  intro v7 e7
  refine ⟨fun ne => out (fun s' e' hs' he' es ee w => ne ?_), fun q => h1 s e hs he rfl rfl ⟨cs, ce, q.trans e7⟩⟩
  have e1 : s' = s := (nI_eq (by omega) (by omega)).mp es.symm
  have e2 : e' = e := (nI_eq (by omega) (by omega)).mp ee.symm
  rw [e1, e2] at w
  exact w.2.2.trans e7.symm
theorem hpx_areEnds {t tm : XT} {L : Nat → Int32} {c K : Nat} {a b : Int32} {Q : Int32 → XT → Prop} (hE : hcE t L c) (hM : hmE tm L c) (hP : hPJ t tm c) (hc : c ≤ 60) (hK : 20 ≤ K) (h1 : ∀ s e, s < c → e < c → a = nI s → b = nI e → hEnds tm s e → Q 1 t) (h0 : (∀ s e, s < c → e < c → a = nI s → b = nI e → ¬ hEnds tm s e) → Q 0 t) : wqX11_areEnds K t a b Q := by
  obtain ⟨K, rfl⟩ : ∃ K', K = K' + 2 := ⟨K - 2, by omega⟩
  have no1 : (∀ s e, s < c → e < c → a = nI s → b = nI e → ¬ hEnds tm s e) → wpX11_areEnds (K + 1) 1 t (uI (uI (fun _ => 0) 1 a) 2 b) (fun _ => 0) Q := fun w => h0 w
  have no2 : (∀ s e, s < c → e < c → a = nI s → b = nI e → ¬ hEnds tm s e) → wpX11_areEnds (K + 1) 2 t (uI (uI (fun _ => 0) 1 a) 2 b) (fun _ => 0) Q := fun w => h0 w
  show wbX11_areEnds_0 (wpX11_areEnds (K + 1)) (K + 1) t (uI (uI (fun _ => 0) 1 a) 2 b) (fun _ => 0) Q
  refine hpx_isThere hE.1 hP hc (by omega) (fun s hs ea gs => ⟨fun q => absurd q (by decide), fun _ => ?_⟩) (fun no => ⟨fun _ => no1 (fun s e hs he ea eb w => (no s hs ea) w.1.1), fun q => absurd rfl q⟩)
  refine hpx_isThere hE.1 hP hc (by omega) (fun e he eb ge => ⟨fun _ => ?_, fun q => absurd q (by decide)⟩) (fun no => ⟨fun q => absurd rfl q, fun _ => no1 (fun s e hs he ea eb w => (no e he eb) w.2.1.1)⟩)
  have ea : a = nI s := ea
  have eb : b = nI e := eb
  subst ea
  subst eb
  have uq : ∀ s' e', s' < c → e' < c → nI s = nI s' → nI e = nI e' → hEnds tm s' e' → hEnds tm s e := by
    intro s' e' hs' he' es ee w
    have e1 : s' = s := (nI_eq (by omega) (by omega)).mp es.symm
    have e2 : e' = e := (nI_eq (by omega) (by omega)).mp ee.symm
    rw [e1, e2] at w; exact w
  refine ⟨vp_in_nI (n := s) (by omega) (by decide), fun v5 f5 => ⟨vp_in_nI (n := e) (by omega) (by decide), fun v6 f6 v7 f7 => ?_⟩⟩
  have f5 : v5 = hm_dim tm s := f5.trans ((congrArg (t.2.2.1 3) (hw_clamp (by omega))).trans (hw_dims hE hM hs))
  have f6 : v6 = hm_dim tm e := f6.trans ((congrArg (t.2.2.1 3) (hw_clamp (by omega))).trans (hw_dims hE hM he))
  rw [f6] at f7
  refine ⟨fun q => ?_, fun nq => h0 (fun s' e' hs' he' es ee w => nq (f5.trans ((uq s' e' hs' he' es ee w).2.2.trans f7.symm)))⟩
  refine hpx_isCritical hP hc hs (by omega) (fun gs' ps => ⟨fun z => absurd z (by decide), fun _ => ?_⟩) (fun nc => ⟨fun _ => no2 (fun s' e' hs' he' es ee w => nc ⟨fun z => z (uq s' e' hs' he' es ee w).1.1, (uq s' e' hs' he' es ee w).1.2⟩), fun z => absurd rfl z⟩)
  refine hpx_isCritical hP hc he (by omega) (fun ge' pe => ⟨fun z => absurd z (by decide), fun _ => ?_⟩) (fun nc => ⟨fun _ => no2 (fun s' e' hs' he' es ee w => nc ⟨fun z => z (uq s' e' hs' he' es ee w).2.1.1, (uq s' e' hs' he' es ee w).2.1.2⟩), fun z => absurd rfl z⟩)
  exact h1 s e hs he rfl rfl ⟨⟨Classical.byContradiction gs', ps⟩, ⟨Classical.byContradiction ge', pe⟩, f5.symm.trans (q.trans f7)⟩
theorem hmx_paths0 {K : Nat} {t : XT} {a b : Int32} {Q : Int64 → XT → Prop} (h : wbX12_paths_0 (wpX12_paths K) K t (uI (uI (fun _ => 0) 1 a) 2 b) (fun _ => 0) Q) : wqX12_paths (K + 1) t a b Q := h
theorem hac_paths (n : Nat) (tx tm : XT) (p1 p2 : Int32) (hJ : hAl (n + 1) tx tm) (g : hNk (n + 1) tx) : ∃ k, wqX11_paths k tx p1 p2 (fun r1 tx' => ∃ k', wqX12_paths k' tm p1 p2 (fun r2 tm' => r1 = r2 ∧ hAl n tx' tm')) := by
  obtain ⟨hJ', c, L, hL, hE, hM, hP, _, _⟩ := id hJ
  have hc := hL.1
  obtain ⟨n', hI⟩ := hal_inv hJ' hM hc
  have hF := hf6_of hJ'
  obtain ⟨KA, hKA⟩ : ∃ KA, KA = 50000 := ⟨_, rfl⟩
  refine hfa_paths (A := KA + 1) (B := KA + 1) hJ ?_
  show wbX11_paths_0 (wpX11_paths KA) KA tx (uI (uI (fun _ => 0) 1 p1) 2 p2) (fun _ => 0) _
  refine hpx_areEnds hE hM hP hc (by omega) (fun s e hs he ea eb w => ⟨fun _ => ?_, fun q => absurd q (by decide)⟩) (fun no => ⟨fun q => absurd rfl q, fun _ => ?_⟩)
  · have ea : p1 = nI s := ea
    have eb : p2 = nI e := eb
    subst ea
    subst eb
    have ref : wqX12_paths (KA + 1) tm (nI s) (nI e) (fun r2 _ => ∃ (W : Nat → Int64) (A : Nat → Nat), hq_full tm c e W A ∧ r2 = lN (hq_tot tm c 60 s A)) := by
      refine hmx_paths0 ?_
      refine hmx_areEnds hM.1 hc (by omega) (fun s' e' hs' he' es ee _ => ⟨fun q => absurd q (by decide), fun _ => ?_⟩) (fun no => absurd w (no s e hs he rfl rfl))
      exact hq_waysFrom2 hM.1 hc hI.2.2.2.1 hI.2.2.2.2.1 hs he (by omega) (fun W G A hA => ⟨W, A, hA, rfl⟩)
    obtain ⟨A0, hA0⟩ := hwf_ex e hc hI.2.2.2.1 hI.2.2.2.2.1
    refine hpx_countWays hE hM hL hP hI hF g hs he w.1.1 w.2.2 hA0 (by omega) (fun t' W h o g' fr hE' hP' hT a b => ?_)
    refine wmX12_paths (Nat.le_refl _) (fun r2 tm' q => ?_) ref
    obtain ⟨W1, A1, hA1, e1⟩ := q
    have same := hwf_eq hc hI.2.2.2.1 hI.2.2.2.2.1 hA0 hA1.2.2
    have se : s ≠ e := fun q => by rw [q] at w; exact hw_succ_ne _ w.2.2
    rw [a s hs w.1.1, hwV_T se rfl, hwT_crit hc w.1.2, e1]
    refine congrArg lN (hq_sum_eq c (fun x hx => ?_))
    show hq_sel (x ≠ 60 ∧ hm_faceT tm x s) (A0 x) = hq_sel (x ≠ 60 ∧ hm_faceT tm x s) (A1 x)
    rw [same x hx]
  · refine hmx_paths0 ?_
    exact hmx_areEnds hM.1 hc (by omega) (fun s e hs he ea eb w => absurd w (no s e hs he ea eb)) (fun _ => ⟨fun _ => rfl, fun q => absurd rfl q⟩)
