/-! ===== the reference's peeling by DRAWS, exactly ===== -/
def hkD (t : XT) : (Int32 × Int32) × ((Nat → Int32) × (Nat → Int32) × (Nat → Int32) × (Nat → Int32)) × ((Nat → Int32) × (Nat → Int32) × (Nat → Int32)) := ((t.1 3, t.1 4), (t.2.2.1 2, t.2.2.1 3, t.2.2.1 5, t.2.2.1 8), (t.2.2.1 13, t.2.2.1 14, t.2.2.1 15))
theorem hmE_D {t t' : XT} {L : Nat → Int32} {c : Nat} (h : hkD t' = hkD t) (hM : hmE t L c) : hmE t' L c := by
  have a3 : t'.1 3 = t.1 3 := congrArg (fun q => q.1.1) h
  have b2 : t'.2.2.1 2 = t.2.2.1 2 := congrArg (fun q => q.2.1.1) h
  have b3 : t'.2.2.1 3 = t.2.2.1 3 := congrArg (fun q => q.2.1.2.1) h
  unfold hmE
  rw [a3, b2, b3]
  exact hM
theorem hmx_od_go {t : XT} {L : Nat → Int32} {c : Nat} {O : Nat → Prop} {lj : Nat → Int64} {Q : Int32 → XT → Prop} (hM : hmE t L c) (hL : hnL L c) (hO : ∀ k, k < c → (t.2.2.1 9 k ≠ 0 ↔ O k)) (hQ : ∀ r, hgr L c 5 O r → Q r t) :
    ∀ (d i K : Nat) (li : Nat → Int32), i + d = c → 2 * d + 20 ≤ K → hgr L i 5 O (li 1) → li 2 = nI i → wpX12_openDim K 1 t li lj Q := by
  have hc := hL.1
  intro d
  induction d with
  | zero =>
    intro i K li hd hK h1 e2
    obtain ⟨K, rfl⟩ : ∃ K', K = K' + 1 := ⟨K - 1, by omega⟩
    obtain rfl : i = c := by omega
    show wbX12_openDim_1 (wpX12_openDim K) K t li lj Q
    exact ⟨fun _ => hQ _ h1, fun x => absurd (show t.1 3 ≤ li 2 by rw [hM.1, e2]; exact nI_le (by omega) (by omega)) x⟩
  | succ d ih =>
    intro i K li hd hK h1 e2
    obtain ⟨K, rfl⟩ : ∃ K', K = K' + 2 := ⟨K - 2, by omega⟩
    have nx : ∀ v : Int32, hgr L (i + 1) 5 O v → wpX12_openDim (K + 1) 2 t (uI li 100 v) lj Q := by
      intro v hv
      show wbX12_openDim_2 (wpX12_openDim K) K t (uI li 100 v) lj Q
      intro v6 e6
      exact ih (i + 1) K _ (by omega) (by omega) hv (by show v6 = _; rw [e6]; exact (congrArg (· + Int32.ofInt 1) e2).trans (hs_inc i))
    obtain ⟨di, di5, hdi⟩ := hnL_bc hL (show i < c by omega)
    have dim : hm_dim t i = nI di := by
      unfold hm_dim hm_let
      rw [hM.2.1 i (by omega), hdi]; exact nI_pred di
    show wbX12_openDim_1 (wpX12_openDim (K + 1)) (K + 1) t li lj Q
    unfold wbX12_openDim_1
    rw [e2]
    refine ⟨fun x => absurd (show t.1 3 ≤ nI i from x) (by rw [hM.1]; exact nI_ge (by omega) (by omega)), fun _ => ⟨vp_in_nI (n := i) (by omega) (by decide), fun v2 f2 => ?_⟩⟩
    have f2 : v2 = t.2.2.1 9 i := f2.trans (congrArg (t.2.2.1 9) (nI_clamp (by omega)))
    refine ⟨fun z => nx (li 1) ?_, fun nz => ?_⟩
    · have gi : ¬ O i := fun w => ((hO i (by omega)).mpr w) (f2.symm.trans z)
      rcases h1 with ⟨a, b⟩ | ⟨d', d5', e', ⟨k', kc', pk', dk'⟩, g'⟩
      · refine Or.inl ⟨a, fun k hk gk => ?_⟩
        by_cases z : k = i
        · subst z; exact absurd gk gi
        · exact b k (by omega) gk
      · refine Or.inr ⟨d', d5', e', ⟨k', by omega, pk', dk'⟩, fun k hk gk => ?_⟩
        by_cases z : k = i
        · subst z; exact absurd gk gi
        · exact g' k (by omega) gk
    · have gi : O i := (hO i (by omega)).mp (fun q => nz (f2.trans q))
      refine hm_dimOf (by omega) (by omega) (fun v5 e5 => nx v5 ?_)
      rw [dim] at e5
      rcases h1 with ⟨a, b⟩ | ⟨d', d5', e', ⟨k', kc', pk', dk'⟩, g'⟩
      · rw [a, if_pos (show (-1 : Int32) < nI di from Int32.lt_of_lt_of_le (by decide : (-1 : Int32) < 0) (nI_pos' (by omega)))] at e5
        refine Or.inr ⟨di, di5, e5, ⟨i, by omega, gi, hdi⟩, fun k hk gk e he q => ?_⟩
        by_cases z : k = i
        · subst z
          have := (nI_eq (by omega) (by omega)).mp (q.symm.trans hdi)
          omega
        · exact absurd q (b k (by omega) gk e he)
      · by_cases lt : d' < di
        · rw [e', if_pos (nI_lt lt (by omega))] at e5
          refine Or.inr ⟨di, di5, e5, ⟨i, by omega, gi, hdi⟩, fun k hk gk e he q => ?_⟩
          by_cases z : k = i
          · subst z
            have := (nI_eq (by omega) (by omega)).mp (q.symm.trans hdi)
            omega
          · have := g' k (by omega) gk e he q
            omega
        · rw [e', if_neg (nI_nlt (by omega) (by omega))] at e5
          refine Or.inr ⟨d', d5', e5, ⟨k', by omega, pk', dk'⟩, fun k hk gk e he q => ?_⟩
          by_cases z : k = i
          · subst z
            have := (nI_eq (by omega) (by omega)).mp (q.symm.trans hdi)
            omega
          · exact g' k (by omega) gk e he q
theorem hmx_od {t : XT} {L : Nat → Int32} {c K : Nat} {O : Nat → Prop} {Q : Int32 → XT → Prop} (hM : hmE t L c) (hL : hnL L c) (hO : ∀ k, k < c → (t.2.2.1 9 k ≠ 0 ↔ O k)) (hK : 200 ≤ K) (hQ : ∀ r, hgr L c 5 O r → Q r t) : wqX12_openDim K t Q := by
  have hc := hL.1
  obtain ⟨K, rfl⟩ : ∃ K', K = K' + 2 := ⟨K - 2, by omega⟩
  show wbX12_openDim_0 (wpX12_openDim (K + 1)) (K + 1) t (fun _ => 0) (fun _ => 0) Q
  exact hmx_od_go hM hL hO hQ c 0 (K + 1) _ (by omega) (by omega) (Or.inl ⟨rfl, fun k hk => absurd hk (by omega)⟩) rfl
theorem hmx_ch_go {w : XT} {L : Nat → Int32} {c : Nat} {O p : Nat → Prop} {av dv : Int32} {lj : Nat → Int64} {Q : Int32 → XT → Prop} (hM : hmE w L c) (hL : hnL L c) (hO : ∀ k, k < c → (w.2.2.1 9 k ≠ 0 ↔ O k))
    (hp : (av = 1 ∧ ∀ k, k < c → (p k ↔ hdS L c O k)) ∨ (av = 0 ∧ ∃ d, d < 5 ∧ dv = nI d ∧ ∀ k, k < c → (p k ↔ hdG L O d k))) (hQ : ∀ R : Nat → Int32, (∀ j, j < c → p j → R (hst_n p j) = nI j) → Q (nI (hst_n p c)) (sA w 12 R)) :
    ∀ (e i K : Nat) (R li : Nat → Int32), i + e = c → 3 * e + 300 ≤ K → li 1 = av → li 2 = dv → li 3 = nI (hst_n p i) → li 4 = nI i → (∀ j, j < i → p j → R (hst_n p j) = nI j) → wpX12_laysChoices K 1 (sA w 12 R) li lj Q := by
  have hc := hL.1
  intro e
  induction e with
  | zero =>
    intro i K R li hi hK e1 e2 e3 e4 hR
    obtain ⟨K, rfl⟩ : ∃ K', K = K' + 1 := ⟨K - 1, by omega⟩
    have hi : i + 0 = c := hi
    obtain rfl : i = c := by omega
    show wbX12_laysChoices_1 (wpX12_laysChoices K) K (sA w 12 R) li lj Q
    exact ⟨fun _ => by rw [e3]; exact hQ R hR, fun x => absurd (show w.1 3 ≤ li 4 by rw [hM.1, e4]; exact nI_le (by omega) (by omega)) x⟩
  | succ e ih =>
    intro i K R li hi hK e1 e2 e3 e4 hR
    obtain ⟨K, rfl⟩ : ∃ K', K = K' + 3 := ⟨K - 3, by omega⟩
    have ic : i < c := by omega
    have nx : ∀ (K' : Nat) (R' li' : Nat → Int32), 3 * e + 300 ≤ K' → li' 1 = av → li' 2 = dv → li' 3 = nI (hst_n p (i + 1)) → li' 4 = nI i → (∀ j, j < i + 1 → p j → R' (hst_n p j) = nI j) → wpX12_laysChoices (K' + 1) 3 (sA w 12 R') li' lj Q := by
      intro K' R' li' k1 a1 a2 a3 a4 aR
      show wbX12_laysChoices_3 (wpX12_laysChoices K') K' (sA w 12 R') li' lj Q
      intro v e
      exact ih (i + 1) K' R' _ (by omega) k1 a1 a2 a3 (by show v = _; rw [e, a4]; exact hs_inc i) aR
    have skip : ¬ p i → wpX12_laysChoices (K + 2) 3 (sA w 12 R) li lj Q := by
      intro np
      have s1 : hst_n p (i + 1) = hst_n p i := by show hst_n p i + hq_sel (p i) 1 = _; rw [hq_sel0 np]; rfl
      refine nx (K + 1) R li (by omega) e1 e2 (by rw [s1]; exact e3) e4 (fun j hj pj => ?_)
      by_cases y : j = i
      · rw [y] at pj; exact absurd pj np
      · exact hR j (by omega) pj
    have take : p i → wpX12_laysChoices (K + 2) 2 (sA w 12 R) li lj Q := by
      intro pi
      have s1 : hst_n p (i + 1) = hst_n p i + 1 := by show hst_n p i + hq_sel (p i) 1 = _; rw [hq_sel1 pi]
      have l := hst_le p i
      show wbX12_laysChoices_2 (wpX12_laysChoices (K + 1)) (K + 1) (sA w 12 R) li lj Q
      unfold wbX12_laysChoices_2
      rw [e3, e4]
      refine ⟨vp_in_nI (n := hst_n p i) (by omega) (by decide), fun t9 e9 v10 e10 => ?_⟩
      have e9 : t9 = sA w 12 (upd R (hst_n p i) (nI i)) := by
        rw [e9]
        show sA (sA w 12 R) 12 (upd R (nI (hst_n p i)).toNatClampNeg (nI i)) = _
        rw [hm_sAA, nI_clamp (by omega)]
      rw [e9]
      refine nx K _ _ (by omega) e1 e2 (by show v10 = _; rw [e10, s1]; exact hs_inc _) e4 (fun j hj pj => ?_)
      show (if hst_n p j = hst_n p i then nI i else R (hst_n p j)) = nI j
      by_cases y : j = i
      · rw [if_pos (by rw [y]), y]
      · rw [if_neg (fun z => y (hst_rank pj pi z))]
        exact hR j (by omega) pj
    have pO : p i → O i := by
      intro pi
      rcases hp with ⟨_, b⟩ | ⟨_, d, _, _, b⟩
      · exact ((b i ic).mp pi).1
      · exact ((b i ic).mp pi).1
    show wbX12_laysChoices_1 (wpX12_laysChoices (K + 2)) (K + 2) (sA w 12 R) li lj Q
    unfold wbX12_laysChoices_1
    rw [e1, e2, e4]
    refine ⟨fun x => absurd (show w.1 3 ≤ nI i from x) (by rw [hM.1]; exact nI_ge (by omega) (by omega)), fun _ => ⟨vp_in_nI (n := i) (by omega) (by decide), fun v2 f2 => ?_⟩⟩
    have f2 : v2 = w.2.2.1 9 i := f2.trans (congrArg (w.2.2.1 9) (nI_clamp (by omega)))
    refine ⟨fun z => skip (fun pi => ((hO i ic).mpr (pO pi)) (f2.symm.trans z)), fun nz => ?_⟩
    have oi : O i := (hO i ic).mp (fun q => nz (f2.trans q))
    rcases hp with ⟨ea, b⟩ | ⟨ea, d, d5, ed, b⟩
    · refine ⟨fun z => absurd (ea.symm.trans z) (by decide), fun _ => ?_⟩
      exact hmx_onlyOver (t := sA w 12 R) (f := i) hM hL hO ic (by omega) (fun s hs => ⟨fun z => absurd z (hs_nI_neg (by have := hs.1; omega)), fun _ => take ((b i ic).mpr ⟨oi, s, hs⟩)⟩) (fun no => ⟨fun _ => skip (fun pi => ((b i ic).mp pi).2.elim (fun s hs => no s hs)), fun z => absurd rfl z⟩)
    · refine ⟨fun _ => ?_, fun z => absurd ea z⟩
      obtain ⟨di, di5, hdi⟩ := hnL_bc hL ic
      have dim : hm_dim (sA w 12 R) i = nI di := by
        show hm_bc (w.2.2.1 2 i) - 1 = nI di
        rw [hM.2.1 i ic, hdi]; exact nI_pred di
      refine hm_dimOf (t := sA w 12 R) (k := i) (by omega) (by omega) ⟨fun ne => skip (fun pi => ne ?_), fun eq => take ((b i ic).mpr ⟨oi, ?_⟩)⟩
      · have q := ((b i ic).mp pi).2
        have := (nI_eq (by omega) (by omega)).mp (q.symm.trans hdi)
        rw [dim, ed, show d = di by omega]
      · rw [dim, ed] at eq
        have := (nI_eq (by omega) (by omega)).mp eq
        rw [hdi, this]
theorem hmx_choices {w : XT} {L : Nat → Int32} {c K : Nat} {O p : Nat → Prop} {av dv : Int32} {Q : Int32 → XT → Prop} (hM : hmE w L c) (hL : hnL L c) (hO : ∀ k, k < c → (w.2.2.1 9 k ≠ 0 ↔ O k))
    (hp : (av = 1 ∧ ∀ k, k < c → (p k ↔ hdS L c O k)) ∨ (av = 0 ∧ ∃ d, d < 5 ∧ dv = nI d ∧ ∀ k, k < c → (p k ↔ hdG L O d k))) (hK : 700 ≤ K) (hQ : ∀ R : Nat → Int32, (∀ j, j < c → p j → R (hst_n p j) = nI j) → Q (nI (hst_n p c)) (sA w 12 R)) : wqX12_laysChoices K w av dv Q := by
  have hc := hL.1
  obtain ⟨K, rfl⟩ : ∃ K', K = K' + 1 := ⟨K - 1, by omega⟩
  show wbX12_laysChoices_0 (wpX12_laysChoices K) K w (uI (uI (fun _ => 0) 1 av) 2 dv) (fun _ => 0) Q
  have g := hmx_ch_go (lj := fun _ => 0) hM hL hO hp hQ c 0 K (w.2.2.1 12) (uI (uI (uI (uI (fun _ => 0) 1 av) 2 dv) 3 0) 4 0) (by omega) (by omega) rfl rfl rfl rfl (fun j hj => absurd hj (by omega))
  rw [hm_sA0] at g
  exact g
theorem hmx_do_go {t0 : XT} {L : Nat → Int32} {c : Nat} {A X : Int32} {lj : Nat → Int64} {Q : Int32 → XT → Prop} (hM0 : hmE t0 L c) (hL : hnL L c) (hQ : ∀ t', hkD t' = hkD t0 → t'.1 8 = X → Q A t') :
    ∀ (d K : Nat) (O : Nat → Prop) (x a : Int32) (t : XT) (li : Nat → Int32), 4 * d + 1000 ≤ K → hkD t = hkD t0 → (∀ k, k < c → (t.2.2.1 9 k ≠ 0 ↔ O k)) → t.1 8 = x → 0 ≤ x → hst_n O c ≤ d → hdp L c d O x a = (A, X) → li 1 = a → hgr L c 5 O (li 2) → wpX12_drawnOnce K 1 t li lj Q := by
  have hc := hL.1
  intro d
  have fin : ∀ (d K : Nat) (O : Nat → Prop) (x a : Int32) (t : XT) (li : Nat → Int32), 1 ≤ K → hkD t = hkD t0 → t.1 8 = x → hdp L c d O x a = (A, X) → li 1 = a → (∀ k, k < c → ¬ O k) → li 2 = -1 → wpX12_drawnOnce K 1 t li lj Q := by
    intro d K O x a t li hK hk ex hp e1 no e2
    obtain ⟨K, rfl⟩ : ∃ K', K = K' + 1 := ⟨K - 1, by omega⟩
    rw [hdp_0 no] at hp
    have pa : a = A := congrArg (fun q => q.1) hp
    have px : x = X := congrArg (fun q => q.2) hp
    show wbX12_drawnOnce_1 (wpX12_drawnOnce K) K t li lj Q
    exact ⟨fun _ => by rw [e1, pa]; exact hQ t hk (ex.trans px), fun z => absurd e2 z⟩
  have non : ∀ (O : Nat → Prop) (r : Int32), hgr L c 5 O r → (∀ k, k < c → ¬ O k) → r = -1 := by
    intro O r h no
    rcases h with ⟨a, _⟩ | ⟨_, _, _, ⟨k, kc, pk, _⟩, _⟩
    · exact a
    · exact absurd pk (no k kc)
  induction d with
  | zero =>
    intro K O x a t li hK hk hO ex hx ho hp e1 h2
    have no : ∀ k, k < c → ¬ O k := hst_0 (by omega)
    exact fin 0 K O x a t li (by omega) hk ex hp e1 no (non O _ h2 no)
  | succ d ih =>
    intro K O x a t li hK hk hO ex hx ho hp e1 h2
    rcases id h2 with ⟨m1, b⟩ | ⟨D, D5, eD, ⟨k0, hk0, ok0, dk0⟩, _⟩
    · refine fin (d + 1) K O x a t li (by omega) hk ex hp e1 (fun k hk ok => ?_) m1
      obtain ⟨e, e5, he⟩ := hnL_bc hL hk
      exact absurd he (b k hk ok e e5)
    obtain ⟨K, rfl⟩ : ∃ K', K = K' + 2 := ⟨K - 2, by omega⟩
    have hM := hmE_D hk hM0
    have dn : 0 ≤ hdn x := (hdr_x (c := 1) hx (by omega) (by omega)).2
    have nx : ∀ (O' : Nat → Prop) (a' : Int32) (t' : XT) (li' : Nat → Int32), hkD t' = hkD t0 → (∀ k, k < c → (t'.2.2.1 9 k ≠ 0 ↔ O' k)) → t'.1 8 = hdn x → hst_n O' c ≤ d → hdp L c d O' (hdn x) a' = (A, X) → li' 1 = a' → wpX12_drawnOnce (K + 1) 2 t' li' lj Q := by
      intro O' a' t' li' b1 b2 b3 b4 b5 b6
      show wbX12_drawnOnce_2 (wpX12_drawnOnce K) K t' li' lj Q
      exact hmx_od (hmE_D b1 hM0) hL b2 (by omega) (fun r hr => ih K O' (hdn x) a' t' _ (by omega) b1 b2 b3 dn b4 b5 b6 hr)
    show wbX12_drawnOnce_1 (wpX12_drawnOnce (K + 1)) (K + 1) t li lj Q
    refine ⟨fun z => absurd (eD.symm.trans z) (hs_nI_neg (by omega)), fun _ => ?_⟩
    have row : ∀ {p : Nat → Prop} {R : Nat → Int32}, (∀ j, j < c → p j → R (hst_n p j) = nI j) → (∃ k, k < c ∧ p k) → ∃ j, hdc p c x j ∧ (∃ r, r < 60 ∧ hdr x (nI (hst_n p c)) = nI r ∧ R r = nI j) := by
      intro p R hR ex'
      obtain ⟨k, hk, pk⟩ := ex'
      obtain ⟨j, hj⟩ := hdc_ex hc hx hk pk
      have l := hst_le p j
      have := hj.1
      exact ⟨j, hj, hst_n p j, by omega, hj.2.2, hR j hj.1 hj.2.1⟩
    refine hmx_choices (p := hdS L c O) (O := O) hM hL hO (Or.inl ⟨rfl, fun k _ => Iff.rfl⟩) (by omega) (fun R hR => ⟨fun le => ?_, fun nle => ?_⟩)
    · have z0 : hst_n (hdS L c O) c = 0 := by
        refine Nat.eq_zero_of_not_pos (fun pos => ?_)
        have l := hst_le (hdS L c O) c
        exact absurd (show nI (hst_n (hdS L c O) c) ≤ nI 0 from le) (nI_ge (by omega) (by omega))
      have no : ∀ k, k < c → ¬ hdS L c O k := hst_0 z0
      have eg : ∃ k, k < c ∧ hdG L O D k := ⟨k0, hk0, ok0, dk0⟩
      have pos : 0 < hst_n (hdG L O D) c := Nat.pos_of_ne_zero (fun q => hst_0 q k0 hk0 ⟨ok0, dk0⟩)
      have l := hst_le (hdG L O D) c
      refine hmx_choices (w := sA t 12 R) (p := hdG L O D) (O := O) (dv := li 2) hM hL hO (Or.inr ⟨rfl, D, D5, eD, fun k _ => Iff.rfl⟩) (by omega) (fun R2 hR2 => ?_)
      refine hmx_drawnOf pos (by omega) (by omega) ?_
      obtain ⟨j, hj, r, r60, er, eR⟩ := row hR2 eg
      rw [show (sA (sA t 12 R) 12 R2).1 8 = x from ex, er]
      refine ⟨vp_in_nI (n := r) (by omega) (by decide), fun v8 e8 => ?_⟩
      have e8 : v8 = nI j := e8.trans ((congrArg R2 (nI_clamp (by omega))).trans eR)
      subst e8
      have jc := hj.1
      refine ⟨vp_in_nI (n := j) (by omega) (by decide), fun t9 e9 v10 e10 => ?_⟩
      have e9 : t9 = sA (sI (sA (sA t 12 R) 12 R2) 8 (hdn x)) 9 (upd (t.2.2.1 9) j 0) := by
        rw [e9]
        show sA _ 9 (upd (t.2.2.1 9) (nI j).toNatClampNeg (vp_nar .boolean 0)) = _
        rw [nI_clamp (by omega)]; rfl
      rw [e9]
      rw [hdp_2 hc (hd_none no) ⟨D, D5, by rw [← eD]; exact h2, hj⟩] at hp
      have hdel := hst_del jc hj.2.1.1
      refine nx _ (a + 1) _ _ hk (fun k hk => ?_) rfl (by omega) hp (by show v10 = _; rw [e10, e1]; rfl)
      show (if k = j then (0 : Int32) else t.2.2.1 9 k) ≠ 0 ↔ (O k ∧ k ≠ j)
      by_cases y : k = j
      · rw [if_pos y]; exact ⟨fun z => absurd rfl z, fun z => absurd y z.2⟩
      · rw [if_neg y, hO k hk]; exact ⟨fun z => ⟨z, y⟩, fun z => z.1⟩
    · have pos : 0 < hst_n (hdS L c O) c := by
        refine Nat.pos_of_ne_zero (fun q => nle ?_)
        rw [q]; exact Int32.le_refl _
      have l := hst_le (hdS L c O) c
      have eg : ∃ k, k < c ∧ hdS L c O k := by
        refine Classical.byContradiction (fun z => ?_)
        have := hst_none (p := hdS L c O) (c := c) (fun k hk w => z ⟨k, hk, w⟩)
        omega
      refine hmx_drawnOf pos (by omega) (by omega) ?_
      obtain ⟨j, hj, r, r60, er, eR⟩ := row hR eg
      rw [show (sA t 12 R).1 8 = x from ex, er]
      refine ⟨vp_in_nI (n := r) (by omega) (by decide), fun v8 e8 => ?_⟩
      have e8 : v8 = nI j := e8.trans ((congrArg R (nI_clamp (by omega))).trans eR)
      subst e8
      have jc := hj.1
      obtain ⟨jo, s, js⟩ := hj.2.1
      have sc := js.1
      have js2 : j < s := js.2.2.1.1
      refine hmx_onlyOver (t := sI (sA t 12 R) 8 (hdn x)) (f := j) hM hL hO jc (by omega) (fun s' hs' => ?_) (fun no => absurd js (no s))
      have es : s' = s := js.2.2.2 s' hs'.1 hs'.2.1 hs'.2.2.1
      rw [es]
      refine hq_closes (by omega) (by omega) (by omega) ?_
      rw [hdp_1 hc ⟨hj, js⟩] at hp
      have d1 := hst_del sc js.2.1
      have d2 := hst_del (p := fun k => O k ∧ k ≠ s) jc ⟨jo, by omega⟩
      refine nx _ a _ _ hk (fun k hk => ?_) rfl (by omega) hp e1
      show (if k = s then (0 : Int32) else if k = j then 0 else t.2.2.1 9 k) ≠ 0 ↔ ((O k ∧ k ≠ s) ∧ k ≠ j)
      by_cases y : k = s
      · rw [if_pos y]; exact ⟨fun z => absurd rfl z, fun z => absurd y z.1.2⟩
      · rw [if_neg y]
        by_cases y2 : k = j
        · rw [if_pos y2]; exact ⟨fun z => absurd rfl z, fun z => absurd y2 z.2⟩
        · rw [if_neg y2, hO k hk]; exact ⟨fun z => ⟨⟨z, y⟩, y2⟩, fun z => z.1.1⟩
