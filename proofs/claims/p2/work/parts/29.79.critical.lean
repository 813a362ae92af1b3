/-! ===== critical, facet, free answer alike ===== -/
theorem hpx_isDim {K : Nat} {a : Int32} {Q : Int32 → Prop} (hK : 2 ≤ K) (h1 : ∀ d, d < 5 → a = nI d → Q 1) (h0 : (∀ d, d < 5 → a ≠ nI d) → Q 0) : wqX11_isDim K a Q := by
  obtain ⟨K, rfl⟩ : ∃ K', K = K' + 2 := ⟨K - 2, by omega⟩
  show wbX11_isDim_0 (wpX11_isDim (K + 1)) (K + 1) (uI (fun _ => 0) 0 a) (fun _ => 0) Q
  refine ⟨fun x => h0 (fun d hd e => ?_), fun x => ⟨fun y => h0 (fun d hd e => ?_), fun y => ?_⟩⟩
  · have x : a < 0 := x
    rw [e] at x; exact absurd x (nI_pos (by omega))
  · have y : (5 : Int32) ≤ a := y
    rw [e] at y; exact absurd (show nI 5 ≤ nI d from y) (nI_ge (by omega) (by omega))
  · have x : ¬ a < 0 := x
    have y : ¬ (5 : Int32) ≤ a := y
    obtain ⟨n, hn, e⟩ := nI_of (x := a) x
    exact h1 n (Nat.lt_of_not_le (fun q => y (by rw [e]; exact show nI 5 ≤ nI n from nI_le q hn))) e
theorem hmx_in {K n : Nat} {a : Int32} {Q : Int32 → Prop} (hn : n < 1000) (hK : 2 ≤ K) (h1 : ∀ d, d ≤ n → a = nI d → Q 1) (h0 : (∀ d, d ≤ n → a ≠ nI d) → Q 0) : wqX12_in K a 0 (nI n) Q := by
  refine hm_in hK ?_
  by_cases z : (0 : Int32) ≤ a ∧ a ≤ nI n
  · rw [if_pos z]
    obtain ⟨d, hd, e⟩ := nI_of (x := a) (fun q => by
      have q := Int32.lt_iff_toInt_lt.mp q
      have r := Int32.le_iff_toInt_le.mp z.1
      omega)
    have y := z.2
    rw [e] at y
    exact h1 d ((nI_leI hd (by omega)).mp y |> fun q => by omega) e
  · rw [if_neg z]
    refine h0 (fun d hd e => z ?_)
    rw [e]
    exact ⟨nI_pos' (by omega), nI_le hd (by omega)⟩
theorem hlA_at {p : Nat → Prop} {c j : Nat} {b : Int32} (hc : c ≤ 60) (hj : j < c) (pj : p j) (hb : b = nI (hst_n p j)) : hlA p c b (nI j) := by
  have l := hst_le p j
  have lt : hst_n p j < hst_n p c := by
    have m := hst_mono (p := p) (a := j + 1) (c - (j + 1))
    rw [show j + 1 + (c - (j + 1)) = c by omega] at m
    have s : hst_n p (j + 1) = hst_n p j + 1 := by show hst_n p j + hq_sel (p j) 1 = _; rw [hq_sel1 pj]
    omega
  refine ⟨fun z => absurd (hb.symm.trans z) (hs_nI_neg (by omega)), fun n i e n64 hi pi ri => ?_, fun n e hn le => ?_⟩
  · have : hst_n p j = n := (nI_eq (by omega) (by omega)).mp (hb.symm.trans e)
    rw [hst_rank pj pi (by omega)]
  · have : hst_n p j = n := (nI_eq (by omega) hn).mp (hb.symm.trans e)
    omega
theorem hlA_end {p : Nat → Prop} {c : Nat} {b : Int32} (hc : c ≤ 60) (no : ∀ j, j < c → p j → b ≠ nI (hst_n p j)) : (b = -1 → hlA p c b (nI (hst_n p c))) ∧ (b ≠ -1 → hlA p c b (-2)) := by
  have out : ∀ r, ∀ n j, b = nI n → n < 64 → j < c → p j → hst_n p j = n → r = nI j := fun r n j e _ hj pj rj => absurd (by rw [rj]; exact e) (no j hj pj)
  exact ⟨fun e => ⟨fun _ => rfl, out _, fun n e' hn _ => absurd (e.symm.trans e') (fun q => hs_nI_neg hn q.symm)⟩, fun e => ⟨fun z => absurd z e, out _, fun _ _ _ _ => rfl⟩⟩
theorem hmx_critical_go {t : XT} {c : Nat} {a b : Int32} {p : Nat → Prop} {lj : Nat → Int64} {Q : Int32 → XT → Prop} (hm : t.1 3 = nI c) (hc : c ≤ 60) (hp : ∀ k, k < c → (p k ↔ (hm_crit t k ∧ hm_dim t k = a))) (hQ : ∀ r, hlA p c b r → Q r t) :
    ∀ (d i K : Nat) (li : Nat → Int32), i + d = c → 2 * d + 20 ≤ K → li 1 = a → li 2 = b → li 3 = nI (hst_n p i) → li 4 = nI i → (∀ j, j < i → p j → b ≠ nI (hst_n p j)) → wpX12_critical K 2 t li lj Q := by
  intro d
  induction d with
  | zero =>
    intro i K li hd hK e1 e2 e3 e4 hz
    obtain ⟨K, rfl⟩ : ∃ K', K = K' + 1 := ⟨K - 1, by omega⟩
    obtain rfl : i = c := by omega
    have en := hlA_end hc hz
    show wbX12_critical_2 (wpX12_critical K) K t li lj Q
    unfold wbX12_critical_2
    rw [e2, e3, e4]
    exact ⟨fun _ => ⟨fun z => hQ _ (en.2 z), fun z => hQ _ (en.1 z)⟩, fun x => absurd (by rw [hm]; exact nI_le (Nat.le_refl _) (by omega)) x⟩
  | succ d ih =>
    intro i K li hd hK e1 e2 e3 e4 hz
    obtain ⟨K, rfl⟩ : ∃ K', K = K' + 2 := ⟨K - 2, by omega⟩
    have sn : hst_n p (i + 1) = hst_n p i + hq_sel (p i) 1 := rfl
    have nx : ∀ li' : Nat → Int32, li' 1 = a → li' 2 = b → li' 3 = nI (hst_n p (i + 1)) → li' 4 = nI i → (p i → b ≠ nI (hst_n p i)) → wpX12_critical (K + 1) 3 t li' lj Q := by
      intro li' a1 a2 a3 a4 z
      show wbX12_critical_3 (wpX12_critical K) K t li' lj Q
      intro v ev
      refine ih (i + 1) K (uI li' 4 v) (by omega) (by omega) a1 a2 a3 (by show v = _; rw [ev, a4]; exact hs_inc i) (fun j hj pj => ?_)
      by_cases x : j = i
      · rw [x] at pj ⊢; exact z pj
      · exact hz j (by omega) pj
    have no : ¬ p i → wpX12_critical (K + 1) 3 t li lj Q := fun w => nx li e1 e2 (by rw [sn, hq_sel0 w]; exact e3) e4 (fun y => absurd y w)
    have pi := hp i (by omega)
    show wbX12_critical_2 (wpX12_critical (K + 1)) (K + 1) t li lj Q
    unfold wbX12_critical_2
    rw [e1, e2, e3, e4]
    refine ⟨fun x => absurd x (by rw [hm]; exact nI_ge (by omega) (by omega)), fun _ => ?_⟩
    refine hm_isCritical (a := nI i) hm hc (by omega) (fun j hj ej cr => ⟨fun z => absurd z (by decide), fun _ => ?_⟩) (fun ncr => ⟨fun _ => no (fun w => ncr i (by omega) rfl (pi.mp w).1), fun z => absurd rfl z⟩)
    have ji : j = i := (nI_eq (by omega) (by omega)).mp ej.symm
    rw [ji] at cr
    refine hm_dimOf (by omega) (by omega) ⟨fun ne => no (fun w => ne (pi.mp w).2), fun eq => ?_⟩
    have yes : p i := pi.mpr ⟨cr, eq⟩
    refine ⟨fun ne v ev => nx (uI li 3 v) e1 e2 (by show v = _; rw [ev, sn, hq_sel1 yes]; exact nI_1 _) e4 (fun _ q => ne q.symm), fun e => hQ _ (hlA_at hc (by omega) yes e.symm)⟩
theorem hac_critical (n : Nat) (tx tm : XT) (p1 p2 : Int32) (hJ : hAl (n + 1) tx tm) : ∃ k, wqX11_critical k tx p1 p2 (fun r1 tx' => ∃ k', wqX12_critical k' tm p1 p2 (fun r2 tm' => r1 = r2 ∧ hAl n tx' tm')) := by
  obtain ⟨_, c, L, hL, hE, hM, hP, _, _⟩ := id hJ
  have hc := hL.1
  obtain ⟨KA, hKA⟩ : ∃ KA, KA = 500 := ⟨_, rfl⟩
  refine hfa_critical (A := KA + 2) (B := KA + 2) hJ ?_
  have none : ((∀ d, d < 5 → p1 ≠ nI d) ∨ ¬ (-1 : Int32) ≤ p2) → wqX12_critical (KA + 2) tm p1 p2 (fun r2 _ => (-1 : Int32) = r2) := by
    intro no
    show wbX12_critical_0 (wpX12_critical (KA + 1)) (KA + 1) tm (uI (uI (fun _ => 0) 1 p1) 2 p2) (fun _ => 0) _
    refine hmx_in (n := 4) (a := p1) (by omega) (by omega) (fun d hd e => ⟨fun z => absurd z (by decide), fun _ => ⟨fun le => ?_, fun _ => rfl⟩⟩) (fun _ => ⟨fun _ => rfl, fun z => absurd rfl z⟩)
    rcases no with w | w
    · exact absurd e (w d (by omega))
    · exact absurd le w
  show wbX11_critical_0 (wpX11_critical (KA + 1)) (KA + 1) tx (uI (uI (fun _ => 0) 1 p1) 2 p2) (fun _ => 0) _
  refine hpx_isDim (a := p1) (by omega) (fun d hd e => ⟨fun z => absurd z (by decide), fun _ => ⟨fun le => ?_, fun nle => none (Or.inr nle)⟩⟩) (fun no => ⟨fun _ => none (Or.inl no), fun z => absurd rfl z⟩)
  have le : (-1 : Int32) ≤ p2 := le
  subst e
  have cd : (nI d).toNatClampNeg = d := nI_clamp (by omega)
  refine hpx_unpaired hP hc (by omega) (fun v4 hv4 => ⟨vp_in_nI (n := d) hd (by decide), fun v5 e5 v6 e6 => ?_⟩)
  have e5 : v5 = tx.2.2.2 2 d := e5.trans (congrArg (tx.2.2.2 2) cd)
  have dim : ∀ k, k < c → (hm_bc (L k) = nI (d + 1) ↔ hm_dim tm k = nI d) := by
    intro k hk
    unfold hm_dim hm_let
    rw [hM.2.1 k hk, ← nI_1 d]
    exact ⟨fun w => by rw [w]; exact Int32.add_sub_cancel (nI d) 1, fun w => by rw [← w]; exact (Int32.sub_add_cancel _ _).symm⟩
  have b6 : ∀ k, hb v6 k = true ↔ (k < c ∧ (hm_crit tm k ∧ hm_dim tm k = nI d)) := by
    intro k
    rw [e6, hb_and, Bool.and_eq_true, hv4 k, e5, hE.2.2.2.2.2.2 d k hd]
    exact ⟨fun w => ⟨w.1.1, ⟨Classical.byContradiction w.1.2.1, w.1.2.2⟩, (dim k w.1.1).mp w.2.2⟩, fun w => ⟨⟨w.1, fun z => z w.2.1.1, w.2.1.2⟩, w.1, (dim k w.1).mpr w.2.2⟩⟩
  refine hx_listed b6 hc le (by omega) (fun r hr => ?_)
  show wbX12_critical_0 (wpX12_critical (KA + 1)) (KA + 1) tm (uI (uI (fun _ => 0) 1 (nI d)) 2 p2) (fun _ => 0) _
  refine hmx_in (n := 4) (a := nI d) (by omega) (by omega) (fun d' _ _ => ⟨fun z => absurd z (by decide), fun _ => ⟨fun _ => ?_, fun w => absurd le w⟩⟩) (fun no => absurd rfl (no d (by omega)))
  exact hmx_critical_go (p := fun k => hm_crit tm k ∧ hm_dim tm k = nI d) (lj := fun _ => 0) hM.1 hc (fun k _ => Iff.rfl) (fun r2 hr2 => hlA_uni hc le hr hr2) c 0 (KA + 1) _ (by omega) (by omega) rfl rfl rfl rfl (fun j hj => absurd hj (by omega))
