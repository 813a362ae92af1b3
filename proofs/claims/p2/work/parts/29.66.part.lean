/-! ===== part answers alike ===== -/
theorem hpx_isThere {t : XT} {c K : Nat} {a : Int32} {P : Nat → Int32} {G : Nat → Prop} {Q : Int32 → XT → Prop} (e4 : t.1 4 = nI c) (h : hpX t c P G) (hc : c ≤ 60) (hK : 4 ≤ K) (h1 : ∀ j, j < c → a = nI j → ¬ G j → Q 1 t) (h0 : (∀ j, j < c → a = nI j → G j) → Q 0 t) : wqX11_isThere K t a Q := by
  obtain ⟨K, rfl⟩ : ∃ K', K = K' + 2 := ⟨K - 2, by omega⟩
  show wbX11_isThere_0 (wpX11_isThere (K + 1)) (K + 1) t (uI (fun _ => 0) 1 a) (fun _ => 0) Q
  refine hcx_has e4 hc (by omega) (fun j hj e => ⟨fun z => absurd z (by decide), fun _ => ?_⟩) (fun no => ⟨fun _ => h0 (fun j hj e => absurd e (no j hj)), fun z => absurd rfl z⟩)
  have e : a = nI j := e
  show wqX11_isIn (K + 1) (t.2.1 0) a _
  rw [e]
  refine hw_isIn (by omega) (by omega) (fun y => ⟨fun z => absurd z (by decide), fun _ => h1 j hj e ((h.2.2.1 j).mp y).2⟩) (fun y => ⟨fun _ => h0 (fun j' hj' e' => ?_), fun z => absurd rfl z⟩)
  have := (nI_eq (by omega) (by omega)).mp (e.symm.trans e')
  subst this
  exact Classical.byContradiction (fun g => absurd ((h.2.2.1 j).mpr ⟨hj, g⟩) (by rw [y]; decide))
theorem hHJ_push {tx' tm tm' : XT} {c n : Nat} {R : Nat → Int32} (hn : n ≤ 16) (hc : c ≤ 60) (h : hhX tx' c (if n = 16 then 16 else n + 1) (hhP n (hmA tm) (hm_par tm)) (hhP n (hmB tm) (fun k => hm_gone tm k ≠ 0)))
    (hR : ∀ i, i < (if n = 16 then 16 else n + 1) → ∀ k, k < 60 → R (120 * i + k) = hhP n (fun i k => tm.2.2.1 8 (120 * i + k)) (tm.2.2.1 4) i k ∧ (R (120 * i + 60 + k) = 1 ↔ hhP n (fun i k => tm.2.2.1 8 (120 * i + 60 + k) = 1) (fun k => tm.2.2.1 5 k ≠ 0) i k))
    (e4 : tm'.1 4 = nI (if n = 16 then 16 else n + 1)) (e8 : tm'.2.2.1 8 = R) : hHJ tx' tm' c := by
  refine ⟨_, e4, hhX_ext h (fun i hi k hk => ?_)⟩
  have q := hR i hi k (by omega)
  unfold hmA hmB
  rw [e8]
  exact q
theorem hKJ_fr {tx tx' tm tm' : XT} {c : Nat} (h : hKJ tx tm c) (j6 : tx'.2.1 6 = tx.2.1 6) (r10 : tx'.2.2.1 10 = tx.2.2.1 10) (s14 : tm'.2.2.1 14 = tm.2.2.1 14) (s15 : tm'.2.2.1 15 = tm.2.2.1 15) : hKJ tx' tm' c := by
  unfold hKJ at h ⊢
  rw [j6, r10, s14, s15]; exact h
theorem hpM_of {t : XT} {m : Nat} (h : hm_match t m) : hpM (hm_par t) m := by
  intro k hk
  rcases h k hk with e | ⟨p, hp, e, e', o⟩
  · exact Or.inl e
  · exact Or.inr ⟨p, hp, by rcases o with o | o <;> omega, e, e'⟩
theorem hpM_or {P : Nat → Int32} {c k : Nat} (h : hpM P c) (hk : k < c) : P k = -1 ∨ ∃ o, o < c ∧ P k = nI o := by
  rcases h k hk with e | ⟨p, hp, _, e, _⟩
  · exact Or.inl e
  · exact Or.inr ⟨p, hp, e⟩
theorem hal_inv {n : Nat} {tx tm : XT} {L : Nat → Int32} {c : Nat} (hJ : hJt n tx tm) (hM : hmE tm L c) (hc : c ≤ 60) : ∃ n', hq_inv tm c n' := by
  obtain ⟨z, x, hR, _⟩ := hJ
  obtain ⟨_, _, _, m, n', hI, _⟩ := hR
  have e : m = c := (nI_eq (by have := hI.2.1; omega) (by omega)).mp (hI.1.symm.trans hM.1)
  subst e
  exact ⟨n', hI⟩
/-- a call of the class that saves, then changes PAIRS: what the reference must do to be alike -/
theorem hmx_crit {t : XT} {c K : Nat} {Q : Int32 → XT → Prop} (e3 : t.1 3 = nI c) (hc : c ≤ 60) (hK : 80 ≤ K) (h : Q (hm_cnt (fun k => hm_ind (¬ hm_gone t k ≠ 0 ∧ hm_par t k = -1)) c) t) : wqX12_criticalMany K t Q := by
  refine hm_criticalMany e3 hc hK ?_
  have e : hm_cnt (fun k => hm_ind (hm_crit t k)) c = hm_cnt (fun k => hm_ind (¬ hm_gone t k ≠ 0 ∧ hm_par t k = -1)) c := hct_eq (c := c) (fun k _ => by unfold hm_crit; exact ⟨fun w => ⟨fun z => z w.1, w.2⟩, fun w => ⟨Classical.byContradiction w.1, w.2⟩⟩) c (Nat.le_refl c)
  rw [e]; exact h
theorem hac_part (n : Nat) (tx tm : XT) (p1 : Int32) (hJ : hAl (n + 1) tx tm) : ∃ k, wqX11_part k tx p1 (fun r1 tx' => ∃ k', wqX12_part k' tm p1 (fun r2 tm' => r1 = r2 ∧ hAl n tx' tm')) := by
  obtain ⟨hJ, c, L, hL, hE, hM, hP, hH, hK⟩ := hJ
  have hc := hL.1
  obtain ⟨n', hI⟩ := hal_inv hJ hM hc
  obtain ⟨_, _, _, hMt, _, hn16, h4, _, hTh, _⟩ := hI
  have hMt2 := hpM_of hMt
  obtain ⟨nh, e4, hHx⟩ := hH
  have nhn : nh = n' := (nI_eq (by have := hHx.1; omega) (by omega)).mp (e4.symm.trans h4)
  subst nhn
  refine hfi_part (A := 20) (B := 5000) hJ hL hE hM ?_
  -- the reference, where nothing is to be done, and where j's PAIR goes
  have none : (∀ j, j < c → p1 = nI j → hm_par tm j = -1) → wqX12_part 5000 tm p1 (fun r2 tm' => (-1 : Int32) = r2 ∧ hPJ tx tm' c ∧ hHJ tx tm' c ∧ hKJ tx tm' c) := by
    intro no
    show wbX12_part_0 (wpX12_part 4999) 4999 tm (uI (fun _ => 0) 1 p1) (fun _ => 0) _
    have fin : wpX12_part 4999 1 tm (uI (fun _ => 0) 1 p1) (fun _ => 0) (fun r2 tm' => (-1 : Int32) = r2 ∧ hPJ tx tm' c ∧ hHJ tx tm' c ∧ hKJ tx tm' c) := ⟨rfl, hP, ⟨nh, e4, hHx⟩, hK⟩
    refine hmx_isSimplex hM.1 hc (by omega) (fun j hj e => ⟨fun z => absurd z (by decide), fun _ => ?_⟩) (fun _ => ⟨fun _ => fin, fun z => absurd rfl z⟩)
    have e : p1 = nI j := e
    subst e
    refine ⟨vp_in_nI (n := j) (by omega) (by decide), fun v3 e3 => ⟨fun z => ?_, fun _ => fin⟩⟩
    have e3 : v3 = hm_par tm j := e3.trans (congrArg (tm.2.2.1 4) (nI_clamp (by omega)))
    exact absurd (e3.trans (no j hj rfl)) z
  show wbX11_part_0 (wpX11_part 19) 19 tx (uI (fun _ => 0) 1 p1) (fun _ => 0) _
  refine hpx_isThere hE.1 hP hc (by omega) (fun j hj e ng => ⟨fun z => absurd z (by decide), fun _ => ?_⟩) (fun no => ⟨fun _ => none (fun j hj e => ?_), fun z => absurd rfl z⟩)
  · have e : p1 = nI j := e
    subst e
    have cj : (nI j).toNatClampNeg = j := nI_clamp (by omega)
    refine ⟨vp_in_nI (n := j) (by omega) (by decide), fun v3 e3 => ?_⟩
    have e3 : v3 = hm_par tm j := e3.trans ((congrArg (tx.2.2.1 5) cj).trans (hP.1 j hj))
    refine ⟨fun ne => ?_, fun y => none (fun j' hj' e' => ?_)⟩
    · refine hhx_save hHx hP hc (by omega) (fun t5 s5 j5 r5 h5 => hpx_divide (hpX_S s5 hP) hc hj (hpM_or hMt2 hj) (by omega) (fun t6 k6 x6 => hpx_criticalOnes x6 hc (by omega) ?_))
      have h6 := hhX_fr h5 (congrArg (fun q => q.1.2.1) k6) (congrArg (fun q => q.1.2.2.1) k6) (congrArg (fun q => q.2.1.2.2.2.1) k6) (congrArg (fun q => q.2.2.2.2.2) k6)
      have j6 : t6.2.1 6 = tx.2.1 6 := (congrArg (fun q => q.1.2.2.2) k6).trans j5
      have r6 : t6.2.2.1 10 = tx.2.2.1 10 := (congrArg (fun q => q.2.1.2.2.2.2) k6).trans r5
      show wbX12_part_0 (wpX12_part 4999) 4999 tm (uI (fun _ => 0) 1 (nI j)) (fun _ => 0) _
      refine hmx_isSimplex (a := nI j) hM.1 hc (by omega) (fun j' hj' e' => ⟨fun z => absurd z (by decide), fun _ => ?_⟩) (fun no => absurd rfl (no j hj))
      refine ⟨vp_in_nI (n := j) (by omega) (by decide), fun u3 g3 => ⟨fun _ => ?_, fun y => ?_⟩⟩
      · refine hmx_remembers h4 hn16 (by omega) (fun R hR => ?_)
        refine hq_frees (t := sI (sA tm 8 R) 4 (nI (if nh = 16 then 16 else nh + 1))) (m := c) hc hj ?_ (by omega) ?_
        · exact hMt
        · refine hmx_crit hM.1 hc (by omega) ?_
          exact ⟨rfl, x6, hHJ_push hn16 hc h6 hR rfl rfl, hKJ_fr hK j6 r6 rfl rfl⟩
      · have g3 : u3 = hm_par tm j := g3.trans (congrArg (tm.2.2.1 4) cj)
        exact absurd (e3.trans (g3.symm.trans y)) ne
    · have := (nI_eq (by omega) (by omega)).mp e'
      subst this
      exact e3.symm.trans y
  · have g : hm_gone tm j ≠ 0 := no j hj e
    exact Classical.byContradiction (fun w => g (hTh j hj w))
