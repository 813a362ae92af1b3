/-! ===== facet, free answer alike ===== -/
theorem hmx_facet_go {t : XT} {c : Nat} {b : Int32} {p : Nat → Prop} {lj : Nat → Int64} {Q : Int32 → XT → Prop} (hm : t.1 3 = nI c) (hc : c ≤ 60) (hp : ∀ k, k < c → (p k ↔ (hm_gone t k = 0 ∧ ∀ s, s < c → ¬ hm_faceT t k s))) (hQ : ∀ r, hlA p c b r → Q r t) :
    ∀ (d i K : Nat) (li : Nat → Int32), i + d = c → 2 * d + 100 ≤ K → li 1 = b → li 2 = nI (hst_n p i) → li 3 = nI i → (∀ j, j < i → p j → b ≠ nI (hst_n p j)) → wpX12_facet K 1 t li lj Q := by
  intro d
  induction d with
  | zero =>
    intro i K li hd hK e1 e2 e3 hz
    obtain ⟨K, rfl⟩ : ∃ K', K = K' + 1 := ⟨K - 1, by omega⟩
    obtain rfl : i = c := by omega
    have en := hlA_end hc hz
    show wbX12_facet_1 (wpX12_facet K) K t li lj Q
    unfold wbX12_facet_1
    rw [e1, e2, e3]
    exact ⟨fun _ => ⟨fun z => hQ _ (en.2 z), fun z => hQ _ (en.1 z)⟩, fun x => absurd (by rw [hm]; exact nI_le (Nat.le_refl _) (by omega)) x⟩
  | succ d ih =>
    intro i K li hd hK e1 e2 e3 hz
    obtain ⟨K, rfl⟩ : ∃ K', K = K' + 2 := ⟨K - 2, by omega⟩
    have sn : hst_n p (i + 1) = hst_n p i + hq_sel (p i) 1 := rfl
    have nx : ∀ li' : Nat → Int32, li' 1 = b → li' 2 = nI (hst_n p (i + 1)) → li' 3 = nI i → (p i → b ≠ nI (hst_n p i)) → wpX12_facet (K + 1) 2 t li' lj Q := by
      intro li' a1 a2 a3 z
      show wbX12_facet_2 (wpX12_facet K) K t li' lj Q
      intro v ev
      refine ih (i + 1) K (uI li' 3 v) (by omega) (by omega) a1 a2 (by show v = _; rw [ev, a3]; exact hs_inc i) (fun j hj pj => ?_)
      by_cases x : j = i
      · rw [x] at pj ⊢; exact z pj
      · exact hz j (by omega) pj
    have no : ¬ p i → wpX12_facet (K + 1) 2 t li lj Q := fun w => nx li e1 (by rw [sn, hq_sel0 w]; exact e2) e3 (fun y => absurd y w)
    have pi := hp i (by omega)
    show wbX12_facet_1 (wpX12_facet (K + 1)) (K + 1) t li lj Q
    unfold wbX12_facet_1
    rw [e1, e2, e3]
    refine ⟨fun x => absurd x (by rw [hm]; exact nI_ge (by omega) (by omega)), fun _ => ?_⟩
    refine hm_isThere (a := nI i) hm hc (by omega) (fun j hj ej gj => ⟨fun z => absurd z (by decide), fun _ => ?_⟩) (fun ng => ⟨fun _ => no (fun w => ng i (by omega) rfl (pi.mp w).1), fun z => absurd rfl z⟩)
    have ji : j = i := (nI_eq (by omega) (by omega)).mp ej.symm
    rw [ji] at gj
    refine hm_facesOver hm hc (by omega) (by omega) ⟨fun ne => no (fun w => ne ((hct_0 hc).mpr (pi.mp w).2)), fun eq => ?_⟩
    have yes : p i := pi.mpr ⟨gj, (hct_0 hc).mp eq⟩
    refine ⟨fun ne v ev => nx (uI li 2 v) e1 (by show v = _; rw [ev, sn, hq_sel1 yes]; exact nI_1 _) e3 (fun _ q => ne q.symm), fun e => hQ _ (hlA_at hc (by omega) yes e.symm)⟩
theorem hmx_free_go {t : XT} {c : Nat} {b : Int32} {p : Nat → Prop} {lj : Nat → Int64} {Q : Int32 → XT → Prop} (hm : t.1 3 = nI c) (hc : c ≤ 60) (hp : ∀ k, k < c → (p k ↔ ∃ s, s < c ∧ hfr t c k s)) (hQ : ∀ r, hlA p c b r → Q r t) :
    ∀ (d i K : Nat) (li : Nat → Int32), i + d = c → 2 * d + 110 ≤ K → li 1 = b → li 2 = nI (hst_n p i) → li 3 = nI i → (∀ j, j < i → p j → b ≠ nI (hst_n p j)) → wpX12_free K 1 t li lj Q := by
  intro d
  induction d with
  | zero =>
    intro i K li hd hK e1 e2 e3 hz
    obtain ⟨K, rfl⟩ : ∃ K', K = K' + 1 := ⟨K - 1, by omega⟩
    obtain rfl : i = c := by omega
    have en := hlA_end hc hz
    show wbX12_free_1 (wpX12_free K) K t li lj Q
    unfold wbX12_free_1
    rw [e1, e2, e3]
    exact ⟨fun _ => ⟨fun z => hQ _ (en.2 z), fun z => hQ _ (en.1 z)⟩, fun x => absurd (by rw [hm]; exact nI_le (Nat.le_refl _) (by omega)) x⟩
  | succ d ih =>
    intro i K li hd hK e1 e2 e3 hz
    obtain ⟨K, rfl⟩ : ∃ K', K = K' + 2 := ⟨K - 2, by omega⟩
    have sn : hst_n p (i + 1) = hst_n p i + hq_sel (p i) 1 := rfl
    have nx : ∀ li' : Nat → Int32, li' 1 = b → li' 2 = nI (hst_n p (i + 1)) → li' 3 = nI i → (p i → b ≠ nI (hst_n p i)) → wpX12_free (K + 1) 2 t li' lj Q := by
      intro li' a1 a2 a3 z
      show wbX12_free_2 (wpX12_free K) K t li' lj Q
      intro v ev
      refine ih (i + 1) K (uI li' 3 v) (by omega) (by omega) a1 a2 (by show v = _; rw [ev, a3]; exact hs_inc i) (fun j hj pj => ?_)
      by_cases x : j = i
      · rw [x] at pj ⊢; exact z pj
      · exact hz j (by omega) pj
    have no : ¬ p i → wpX12_free (K + 1) 2 t li lj Q := fun w => nx li e1 (by rw [sn, hq_sel0 w]; exact e2) e3 (fun y => absurd y w)
    have pi := hp i (by omega)
    show wbX12_free_1 (wpX12_free (K + 1)) (K + 1) t li lj Q
    unfold wbX12_free_1
    rw [e1, e2, e3]
    refine ⟨fun x => absurd x (by rw [hm]; exact nI_ge (by omega) (by omega)), fun _ => ?_⟩
    refine hmx_isFreeFace hm hc (by omega) (by omega) (fun s hs w => ⟨fun z => absurd z (by decide), fun _ => ?_⟩) (fun nw => ⟨fun _ => no (fun w => by obtain ⟨s, hs, q⟩ := pi.mp w; exact nw s hs q), fun z => absurd rfl z⟩)
    have yes : p i := pi.mpr ⟨s, hs, w⟩
    refine ⟨fun ne v ev => nx (uI li 2 v) e1 (by show v = _; rw [ev, sn, hq_sel1 yes]; exact nI_1 _) e3 (fun _ q => ne q.symm), fun e => hQ _ (hlA_at hc (by omega) yes e.symm)⟩
theorem hpx_facet_go {tx tm : XT} {L : Nat → Int32} {c : Nat} {b : Int32} {Q : Int32 → XT → Prop} (hE : hcE tx L c) (hP : hPJ tx tm c) (hM : hmE tm L c) (hL : hnL L c) (hb1 : -1 ≤ b) (hQ : ∀ r, hlA (fun k => hm_gone tm k = 0 ∧ ∀ s, s < c → ¬ hm_faceT tm k s) c b r → Q r tx) :
    ∀ (d i K : Nat) (li : Nat → Int32) (lj : Nat → Int64), i + d = c → 2 * d + 400 ≤ K → li 1 = b → li 4 = nI i → (∀ k, hb (lj 2) k = true ↔ (k < i ∧ (hm_gone tm k = 0 ∧ ∀ s, s < c → ¬ hm_faceT tm k s))) → wpX11_facet K 1 tx li lj Q := by
  have hc := hL.1
  intro d
  induction d with
  | zero =>
    intro i K li lj hd hK e1 e4 hv
    obtain ⟨K, rfl⟩ : ∃ K', K = K' + 1 := ⟨K - 1, by omega⟩
    obtain rfl : i = c := by omega
    show wbX11_facet_1 (wpX11_facet K) K tx li lj Q
    unfold wbX11_facet_1
    rw [e1]
    exact ⟨fun _ => hx_listed hv hc hb1 (by omega) (fun r hr => hQ r hr), fun x => absurd (by rw [hE.1, e4]; exact nI_le (Nat.le_refl _) (by omega)) x⟩
  | succ d ih =>
    intro i K li lj hd hK e1 e4 hv
    obtain ⟨K, rfl⟩ : ∃ K', K = K' + 2 := ⟨K - 2, by omega⟩
    have nx : ∀ lj' : Nat → Int64, (∀ k, hb (lj' 2) k = true ↔ (k < i + 1 ∧ (hm_gone tm k = 0 ∧ ∀ s, s < c → ¬ hm_faceT tm k s))) → wpX11_facet (K + 1) 2 tx li lj' Q := by
      intro lj' h
      show wbX11_facet_2 (wpX11_facet K) K tx li lj' Q
      intro v ev
      exact ih (i + 1) K _ lj' (by omega) (by omega) e1 (by show v = _; rw [ev, e4]; exact hs_inc i) h
    have no : ¬ (hm_gone tm i = 0 ∧ ∀ s, s < c → ¬ hm_faceT tm i s) → wpX11_facet (K + 1) 2 tx li lj Q := fun w => nx lj (fun k => by
      rw [hv k]
      exact ⟨fun y => ⟨by omega, y.2⟩, fun y => ⟨Nat.lt_of_le_of_ne (by omega) (fun q => w (q ▸ y.2)), y.2⟩⟩)
    have ci : (nI i).toNatClampNeg = i := nI_clamp (by omega)
    show wbX11_facet_1 (wpX11_facet (K + 1)) (K + 1) tx li lj Q
    unfold wbX11_facet_1
    rw [e4]
    refine ⟨fun x => absurd x (by rw [hE.1]; exact nI_ge (by omega) (by omega)), fun _ => ?_⟩
    refine hpx_isThere (a := nI i) hE.1 hP hc (by omega) (fun j hj ej gj => ⟨fun z => absurd z (by decide), fun _ => ?_⟩) (fun ng => ⟨fun _ => no (fun w => ng i (by omega) rfl w.1), fun z => absurd rfl z⟩)
    have ji : j = i := (nI_eq (by omega) (by omega)).mp ej.symm
    rw [ji] at gj
    have gi : hm_gone tm i = 0 := Classical.byContradiction gj
    refine ⟨vp_in_nI (n := i) (by omega) (by decide), fun v6 e6 v7 e7 v8 e8 => ?_⟩
    rw [ci] at e6
    rw [e6] at e7
    have b7 : ∀ k, hb v7 k = true ↔ (k < c ∧ hm_faceT tm i k) := fun k => by
      rw [e7, hpx_over hE hP k]; exact and_congr_right (fun hk => (hmx_faceT hM hL (by omega) hk gi).symm)
    refine ⟨fun nz => no (fun w => ?_), fun z => hw_bit (k := i) (by omega) (by omega) (fun r10 g10 v11 e11 => nx _ (fun k => ?_))⟩
    · rcases @hb_ne v7 with q | ⟨k, _, kb, _⟩
      · exact nz (by rw [e8, q]; decide)
      · exact w.2 k ((b7 k).mp kb).1 ((b7 k).mp kb).2
    · rw [e8] at z
      show hb v11 k = true ↔ _
      rw [e11, hb_put g10 k, hv k]
      refine ⟨fun y => ?_, fun y => ?_⟩
      · rcases y with y | y
        · exact ⟨by omega, y.2⟩
        · rw [y]
          exact ⟨by omega, gi, fun s hs w => absurd ((b7 s).mpr ⟨hs, w⟩) (by rw [hb_z z s]; decide)⟩
      · by_cases q : k = i
        · exact Or.inr q
        · exact Or.inl ⟨by omega, y.2⟩
theorem hpx_free_go {tx tm : XT} {L : Nat → Int32} {c : Nat} {b : Int32} {Q : Int32 → XT → Prop} (hE : hcE tx L c) (hP : hPJ tx tm c) (hM : hmE tm L c) (hL : hnL L c) (hb1 : -1 ≤ b) (hQ : ∀ r, hlA (fun k => ∃ s, s < c ∧ hfr tm c k s) c b r → Q r tx) :
    ∀ (d i K : Nat) (li : Nat → Int32) (lj : Nat → Int64), i + d = c → 2 * d + 400 ≤ K → li 1 = b → li 4 = nI i → (∀ k, hb (lj 2) k = true ↔ (k < i ∧ ∃ s, s < c ∧ hfr tm c k s)) → wpX11_free K 1 tx li lj Q := by
  have hc := hL.1
  intro d
  induction d with
  | zero =>
    intro i K li lj hd hK e1 e4 hv
    obtain ⟨K, rfl⟩ : ∃ K', K = K' + 1 := ⟨K - 1, by omega⟩
    obtain rfl : i = c := by omega
    show wbX11_free_1 (wpX11_free K) K tx li lj Q
    unfold wbX11_free_1
    rw [e1]
    exact ⟨fun _ => hx_listed hv hc hb1 (by omega) (fun r hr => hQ r hr), fun x => absurd (by rw [hE.1, e4]; exact nI_le (Nat.le_refl _) (by omega)) x⟩
  | succ d ih =>
    intro i K li lj hd hK e1 e4 hv
    obtain ⟨K, rfl⟩ : ∃ K', K = K' + 2 := ⟨K - 2, by omega⟩
    have nx : ∀ lj' : Nat → Int64, (∀ k, hb (lj' 2) k = true ↔ (k < i + 1 ∧ ∃ s, s < c ∧ hfr tm c k s)) → wpX11_free (K + 1) 2 tx li lj' Q := by
      intro lj' h
      show wbX11_free_2 (wpX11_free K) K tx li lj' Q
      intro v ev
      exact ih (i + 1) K _ lj' (by omega) (by omega) e1 (by show v = _; rw [ev, e4]; exact hs_inc i) h
    have no : ¬ (∃ s, s < c ∧ hfr tm c i s) → wpX11_free (K + 1) 2 tx li lj Q := fun w => nx lj (fun k => by
      rw [hv k]
      exact ⟨fun y => ⟨by omega, y.2⟩, fun y => ⟨Nat.lt_of_le_of_ne (by omega) (fun q => w (q ▸ y.2)), y.2⟩⟩)
    show wbX11_free_1 (wpX11_free (K + 1)) (K + 1) tx li lj Q
    unfold wbX11_free_1
    rw [e4]
    refine ⟨fun x => absurd x (by rw [hE.1]; exact nI_ge (by omega) (by omega)), fun _ => ?_⟩
    refine hpx_isThere (a := nI i) hE.1 hP hc (by omega) (fun j hj ej gj => ⟨fun z => absurd z (by decide), fun _ => ?_⟩) (fun ng => ⟨fun _ => no (fun w => by obtain ⟨s, _, q⟩ := w; exact ng i (by omega) rfl q.2.1.1), fun z => absurd rfl z⟩)
    have ji : j = i := (nI_eq (by omega) (by omega)).mp ej.symm
    rw [ji] at gj
    have gi : hm_gone tm i = 0 := Classical.byContradiction gj
    refine hpx_isFree hE hP hM hL (by omega) gi (by omega) (fun s hs w => ⟨fun z => absurd z (by decide), fun _ => hw_bit (k := i) (by omega) (by omega) (fun r10 g10 v11 e11 => nx _ (fun k => ?_))⟩) (fun nw => ⟨fun _ => no (fun w => by obtain ⟨s, hs, q⟩ := w; exact nw s hs q), fun z => absurd rfl z⟩)
    show hb v11 k = true ↔ _
    rw [e11, hb_put g10 k, hv k]
    refine ⟨fun y => ?_, fun y => ?_⟩
    · rcases y with y | y
      · exact ⟨by omega, y.2⟩
      · rw [y]; exact ⟨by omega, s, hs, w⟩
    · by_cases q : k = i
      · exact Or.inr q
      · exact Or.inl ⟨by omega, y.2⟩
theorem hpx_facet0 {K : Nat} {t : XT} {a : Int32} {Q : Int32 → XT → Prop} (h : wbX11_facet_0 (wpX11_facet K) K t (uI (fun _ => 0) 1 a) (fun _ => 0) Q) : wqX11_facet (K + 1) t a Q := h
theorem hmx_facet0 {K : Nat} {t : XT} {a : Int32} {Q : Int32 → XT → Prop} (h : wbX12_facet_0 (wpX12_facet K) K t (uI (fun _ => 0) 1 a) (fun _ => 0) Q) : wqX12_facet (K + 1) t a Q := h
theorem hpx_free0 {K : Nat} {t : XT} {a : Int32} {Q : Int32 → XT → Prop} (h : wbX11_free_0 (wpX11_free K) K t (uI (fun _ => 0) 1 a) (fun _ => 0) Q) : wqX11_free (K + 1) t a Q := h
theorem hmx_free0 {K : Nat} {t : XT} {a : Int32} {Q : Int32 → XT → Prop} (h : wbX12_free_0 (wpX12_free K) K t (uI (fun _ => 0) 1 a) (fun _ => 0) Q) : wqX12_free (K + 1) t a Q := h
theorem hac_facet (n : Nat) (tx tm : XT) (p1 : Int32) (hJ : hAl (n + 1) tx tm) : ∃ k, wqX11_facet k tx p1 (fun r1 tx' => ∃ k', wqX12_facet k' tm p1 (fun r2 tm' => r1 = r2 ∧ hAl n tx' tm')) := by
  obtain ⟨_, c, L, hL, hE, hM, hP, _, _⟩ := id hJ
  have hc := hL.1
  obtain ⟨KA, hKA⟩ : ∃ KA, KA = 1000 := ⟨_, rfl⟩
  refine hfa_facet (A := KA + 1) (B := KA + 1) hJ ?_
  refine hpx_facet0 ⟨fun le => ?_, fun nle => hmx_facet0 ⟨fun le => absurd le nle, fun _ => rfl⟩⟩
  refine hpx_facet_go hE hP hM hL le (fun r hr => hmx_facet0 ⟨fun _ => ?_, fun nle => absurd le nle⟩) c 0 KA _ _ (by omega) (by omega) rfl rfl (fun k => ⟨fun y => absurd ((hb_0 k).symm.trans y) (by decide), fun y => absurd y.1 (by omega)⟩)
  exact hmx_facet_go (lj := fun _ => 0) hM.1 hc (fun k _ => Iff.rfl) (fun r2 hr2 => hlA_uni hc le hr hr2) c 0 KA _ (by omega) (by omega) rfl rfl rfl (fun j hj => absurd hj (by omega))
theorem hac_free (n : Nat) (tx tm : XT) (p1 : Int32) (hJ : hAl (n + 1) tx tm) : ∃ k, wqX11_free k tx p1 (fun r1 tx' => ∃ k', wqX12_free k' tm p1 (fun r2 tm' => r1 = r2 ∧ hAl n tx' tm')) := by
  obtain ⟨_, c, L, hL, hE, hM, hP, _, _⟩ := id hJ
  have hc := hL.1
  obtain ⟨KA, hKA⟩ : ∃ KA, KA = 1000 := ⟨_, rfl⟩
  refine hfa_free (A := KA + 1) (B := KA + 1) hJ ?_
  refine hpx_free0 ⟨fun le => ?_, fun nle => hmx_free0 ⟨fun le => absurd le nle, fun _ => rfl⟩⟩
  refine hpx_free_go hE hP hM hL le (fun r hr => hmx_free0 ⟨fun _ => ?_, fun nle => absurd le nle⟩) c 0 KA _ _ (by omega) (by omega) rfl rfl (fun k => ⟨fun y => absurd ((hb_0 k).symm.trans y) (by decide), fun y => absurd y.1 (by omega)⟩)
  exact hmx_free_go (lj := fun _ => 0) hM.1 hc (fun k _ => Iff.rfl) (fun r2 hr2 => hlA_uni hc le hr hr2) c 0 KA _ (by omega) (by omega) rfl rfl rfl (fun j hj => absurd hj (by omega))
