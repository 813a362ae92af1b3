/-! ===== the reference's AUTO 2, exactly ===== -/
theorem hmx_opens_go {t : XT} {m : Nat} {lj : Nat → Int64} {Q : XT → Prop} (hm : t.1 3 = nI m) (hm60 : m ≤ 60) (hQ : ∀ G : Nat → Int32, (∀ k, k < m → (G k ≠ 0 ↔ hm_gone t k = 0)) → Q (sA t 9 G)) :
    ∀ (d c K : Nat) (li : Nat → Int32) (G : Nat → Int32), c + d = m → 2 * d + 1 ≤ K → li 1 = nI c → (∀ k, k < c → (G k ≠ 0 ↔ hm_gone t k = 0)) → wpX12_opensAll K 1 (sA t 9 G) li lj Q := by
  intro d
  induction d with
  | zero =>
    intro c K li G hd hK e1 hG
    obtain ⟨K, rfl⟩ : ∃ K', K = K' + 1 := ⟨K - 1, by omega⟩
    show wbX12_opensAll_1 (wpX12_opensAll K) K (sA t 9 G) li lj Q
    refine ⟨fun _ => hQ G (fun k hk => hG k (by omega)), fun x => absurd ?_ x⟩
    show t.1 3 ≤ li 1
    rw [hm, e1]; exact nI_le (by omega) (by omega)
  | succ d ih =>
    intro c K li G hd hK e1 hG
    obtain ⟨K, rfl⟩ : ∃ K', K = K' + 2 := ⟨K - 2, by omega⟩
    have cc : (nI c).toNatClampNeg = c := nI_clamp (by omega)
    have nx : ∀ b : Int32, (vp_nar .boolean b ≠ 0 ↔ hm_gone t c = 0) → wpX12_opensAll (K + 1) 2 (sA t 9 G) (uI (uI li 102 b) 101 (nI c)) lj Q := by
      intro b hb
      show wbX12_opensAll_2 (wpX12_opensAll K) K (sA t 9 G) (uI (uI li 102 b) 101 (nI c)) lj Q
      refine ⟨vp_in_nI (n := c) (by omega) (by decide), fun t5 e5 v6 e6 => ?_⟩
      have e6 : v6 = nI (c + 1) := by
        rw [e6]
        exact (congrArg (· + Int32.ofInt 1) e1).trans (hs_inc c)
      rw [hm_sAA] at e5
      have e5 : t5 = sA t 9 (upd G (nI c).toNatClampNeg (vp_nar .boolean b)) := e5
      rw [cc] at e5
      rw [e5]
      refine ih (c + 1) K _ _ (by omega) (by omega) e6 (fun k hk => ?_)
      have u : upd G c (vp_nar .boolean b) k = if k = c then vp_nar .boolean b else G k := rfl
      rw [u]
      by_cases x : k = c
      · rw [if_pos x, x]; exact hb
      · rw [if_neg x]; exact hG k (by omega)
    show wbX12_opensAll_1 (wpX12_opensAll (K + 1)) (K + 1) (sA t 9 G) li lj Q
    unfold wbX12_opensAll_1
    rw [e1]
    refine ⟨fun x => absurd (show t.1 3 ≤ nI c from x) (by rw [hm]; exact nI_ge (by omega) (by omega)), fun _ => ⟨vp_in_nI (by omega) (by decide), fun v3 e3 => ⟨fun y => nx 0 ?_, fun y => nx 1 ?_⟩⟩⟩
    · rw [cc] at e3
      exact ⟨fun w => absurd (show vp_nar .boolean 0 = 0 by decide) w, fun w => absurd (e3.trans w) y⟩
    · rw [cc] at e3
      exact ⟨fun _ => e3.symm.trans y, fun _ => by decide⟩
theorem hmx_opensAll {t : XT} {m K : Nat} {Q : XT → Prop} (hm : t.1 3 = nI m) (hm60 : m ≤ 60) (hK : 200 ≤ K) (hQ : ∀ G : Nat → Int32, (∀ k, k < m → (G k ≠ 0 ↔ hm_gone t k = 0)) → Q (sA (sA t 4 (hq_clr m (t.2.2.1 4))) 9 G)) : wqX12_opensAll K t Q := by
  obtain ⟨K, rfl⟩ : ∃ K', K = K' + 1 := ⟨K - 1, by omega⟩
  show wbX12_opensAll_0 (wpX12_opensAll K) K t (fun _ => 0) (fun _ => 0) Q
  refine hq_clearsPairs hm hm60 (by omega) ?_
  have g := hmx_opens_go (t := sA t 4 (hq_clr m (t.2.2.1 4))) (lj := fun _ => 0) hm hm60 hQ m 0 K (uI (fun _ => 0) 1 0) ((sA t 4 (hq_clr m (t.2.2.1 4))).2.2.1 9) (by omega) (by omega) rfl (fun k hk => absurd hk (by omega))
  rw [hm_sA0] at g
  exact g
theorem hmx_only_go {t : XT} {m f : Nat} {lj : Nat → Int64} {Q : Int32 → XT → Prop} (hm : t.1 3 = nI m) (hm60 : m ≤ 60) (hf : f < m)
    (h1 : ∀ s, s < m → t.2.2.1 9 s ≠ 0 → hm_face t f s → (∀ s', s' < m → t.2.2.1 9 s' ≠ 0 → hm_face t f s' → s' = s) → Q (nI s) t)
    (h0 : (∀ s, s < m → t.2.2.1 9 s ≠ 0 → hm_face t f s → ∃ s', s' < m ∧ t.2.2.1 9 s' ≠ 0 ∧ hm_face t f s' ∧ s' ≠ s) → Q (-1) t) :
    ∀ (d c K : Nat) (li : Nat → Int32), c + d = m → 2 * d + 6 ≤ K → li 1 = nI f → li 3 = nI c →
      ((li 2 = -1 ∧ ∀ s', s' < c → t.2.2.1 9 s' ≠ 0 → ¬ hm_face t f s') ∨ ∃ s, s < c ∧ li 2 = nI s ∧ t.2.2.1 9 s ≠ 0 ∧ hm_face t f s ∧ ∀ s', s' < c → t.2.2.1 9 s' ≠ 0 → hm_face t f s' → s' = s) →
      wpX12_onlyOver K 1 t li lj Q := by
  intro d
  induction d with
  | zero =>
    intro c K li hd hK e1 e3 hs
    obtain ⟨K, rfl⟩ : ∃ K', K = K' + 1 := ⟨K - 1, by omega⟩
    obtain rfl : c = m := by omega
    show wbX12_onlyOver_1 (wpX12_onlyOver K) K t li lj Q
    refine ⟨fun _ => ?_, fun x => absurd (by rw [hm, e3]; exact nI_le (by omega) (by omega)) x⟩
    rcases hs with ⟨a, b⟩ | ⟨s, b1, b2, b3, b4, b5⟩
    · rw [a]; exact h0 (fun s hs o fc => absurd fc (b s hs o))
    · rw [b2]; exact h1 s b1 b3 b4 b5
  | succ d ih =>
    intro c K li hd hK e1 e3 hs
    obtain ⟨K, rfl⟩ : ∃ K', K = K' + 2 := ⟨K - 2, by omega⟩
    have cc : (nI c).toNatClampNeg = c := nI_clamp (by omega)
    have nx : ∀ li' : Nat → Int32, li' 1 = nI f → li' 3 = nI c → ((li' 2 = -1 ∧ ∀ s', s' < c + 1 → t.2.2.1 9 s' ≠ 0 → ¬ hm_face t f s') ∨ ∃ s, s < c + 1 ∧ li' 2 = nI s ∧ t.2.2.1 9 s ≠ 0 ∧ hm_face t f s ∧ ∀ s', s' < c + 1 → t.2.2.1 9 s' ≠ 0 → hm_face t f s' → s' = s) → wpX12_onlyOver (K + 1) 2 t li' lj Q := by
      intro li' a1 a3 as
      show wbX12_onlyOver_2 (wpX12_onlyOver K) K t li' lj Q
      intro v e
      have e : v = nI (c + 1) := by rw [e, a3]; exact hs_inc c
      exact ih (c + 1) K (uI li' 3 v) (by omega) (by omega) a1 e as
    have same : (t.2.2.1 9 c = 0 ∨ ¬ hm_face t f c) → wpX12_onlyOver (K + 1) 2 t li lj Q := by
      intro no
      have not : ∀ s', s' = c → t.2.2.1 9 s' ≠ 0 → hm_face t f s' → False := by
        intro s' e a b
        rcases no with z | z
        · exact a (e ▸ z)
        · exact z (e ▸ b)
      refine nx li e1 e3 ?_
      rcases hs with ⟨a, b⟩ | ⟨s, b1, b2, b3, b4, b5⟩
      · refine Or.inl ⟨a, fun s' hs' o fc => ?_⟩
        by_cases x : s' < c
        · exact b s' x o fc
        · exact not s' (by omega) o fc
      · refine Or.inr ⟨s, by omega, b2, b3, b4, fun s' hs' o fc => ?_⟩
        by_cases x : s' < c
        · exact b5 s' x o fc
        · exact (not s' (by omega) o fc).elim
    show wbX12_onlyOver_1 (wpX12_onlyOver (K + 1)) (K + 1) t li lj Q
    unfold wbX12_onlyOver_1
    rw [e1, e3]
    refine ⟨fun x => absurd (show t.1 3 ≤ nI c from x) (by rw [hm]; exact nI_ge (by omega) (by omega)), fun _ => ⟨vp_in_nI (by omega) (by decide), fun v2 e2 => ?_⟩⟩
    rw [cc] at e2
    refine ⟨fun z => same (Or.inl (e2.symm.trans z)), fun z => ?_⟩
    have oc : t.2.2.1 9 c ≠ 0 := fun q => z (e2.trans q)
    refine hm_isFace (by omega) (by omega) (by omega) (fun fc => ?_) (fun no => ⟨fun _ => same (Or.inr no), fun c => absurd rfl c⟩)
    refine ⟨fun c => absurd c (by decide), fun _ => ⟨fun y => ?_, fun y => h0 (fun s' hs' o fc' => ?_)⟩⟩
    · refine nx (uI li 2 (nI c)) e1 e3 (Or.inr ⟨c, by omega, rfl, oc, fc, fun s' hs' o fc' => ?_⟩)
      by_cases x : s' < c
      · rcases hs with ⟨_, b⟩ | ⟨s, b1, b2, b3, b4, b5⟩
        · exact absurd fc' (b s' x o)
        · rw [b2] at y
          exact absurd y (hs_nI_neg (by omega))
      · omega
    · rcases hs with ⟨a, _⟩ | ⟨s, b1, b2, b3, b4, b5⟩
      · exact absurd a y
      · by_cases x : s' = c
        · exact ⟨s, by omega, b3, b4, by omega⟩
        · exact ⟨c, by omega, oc, fc, fun q => x q.symm⟩
theorem hmx_onlyOver {t : XT} {L : Nat → Int32} {c f K : Nat} {O : Nat → Prop} {Q : Int32 → XT → Prop} (hM : hmE t L c) (hL : hnL L c) (hO : ∀ k, k < c → (t.2.2.1 9 k ≠ 0 ↔ O k)) (hf : f < c) (hK : 200 ≤ K)
    (h1 : ∀ s, hpo L c O f s → Q (nI s) t) (h0 : (∀ s, ¬ hpo L c O f s) → Q (-1) t) : wqX12_onlyOver K t (nI f) Q := by
  have hc := hL.1
  obtain ⟨K, rfl⟩ : ∃ K', K = K' + 1 := ⟨K - 1, by omega⟩
  have F : ∀ s, s < c → (hm_face t f s ↔ hnF L s f) := fun s hs => hf_face hM hL hf hs
  refine hmx_only_go (lj := fun _ => 0) hM.1 hc hf (fun s hs o fc un => h1 s ⟨hs, (hO s hs).mp o, (F s hs).mp fc, fun r hr or fr => un r hr ((hO r hr).mpr or) ((F r hr).mpr fr)⟩) (fun no => h0 (fun s w => ?_)) c 0 K (uI (uI (uI (fun _ => 0) 1 (nI f)) 2 (-1)) 3 0) (by omega) (by omega) rfl rfl (Or.inl ⟨rfl, fun s' hs' => absurd hs' (by omega)⟩)
  obtain ⟨s', a, b, d, e⟩ := no s w.1 ((hO s w.1).mpr w.2.1) ((F s w.1).mpr w.2.2.1)
  exact e (w.2.2.2 s' a ((hO s' a).mp b) ((F s' a).mp d))
def hso (u : XT) (P o : Nat → Int32) : XT := sA (sA u 4 P) 9 o
theorem hso_9 (u : XT) (P o o' : Nat → Int32) : sA (hso u P o) 9 o' = hso u P o' := by
  unfold hso
  rw [hm_sAA]
theorem hmx_auto2_back {t : XT} {M : Nat} {lj : Nat → Int64} {Q : XT → Prop} (ih : ∀ (K : Nat) (li : Nat → Int32), M ≤ K → li 1 = 1 → wpX12_auto2 K 1 t li lj Q) :
    ∀ (K : Nat) (li : Nat → Int32), M + 4 ≤ K → li 1 = 1 → wpX12_auto2 K 3 t li lj Q := by
  intro K li hK e
  have ne : ∀ li' : Nat → Int32, li' 1 = 1 → ¬ li' 1 = 0 := fun li' h => by rw [h]; decide
  obtain ⟨K, rfl⟩ : ∃ K', K = K' + 4 := ⟨K - 4, by omega⟩
  show wbX12_auto2_3 (wpX12_auto2 (K + 3)) (K + 3) t li lj Q
  intro v ev
  have four : ∀ li' : Nat → Int32, li' 1 = 1 → wpX12_auto2 (K + 2) 4 t li' lj Q := by
    intro li' e'
    show wbX12_auto2_4 (wpX12_auto2 (K + 1)) (K + 1) t li' lj Q
    refine ⟨fun _ => ?_, fun c => absurd c (ne li' e')⟩
    show wbX12_auto2_5 (wpX12_auto2 K) K t li' lj Q
    exact ih K li' (by omega) e'
  show wbX12_auto2_2 (wpX12_auto2 (K + 2)) (K + 2) t (uI li 3 v) lj Q
  exact ⟨fun _ => four _ e, fun _ => ⟨fun _ => four _ e, fun c => absurd c (ne _ e)⟩⟩
theorem hmx_auto2_in {u : XT} {L P o : Nat → Int32} {c M : Nat} {O : Nat → Prop} {lj : Nat → Int64} {Q : XT → Prop} (hM : hmE u L c) (hL : hnL L c) (hO : ∀ k, k < c → (o k ≠ 0 ↔ O k)) (hMM : 300 ≤ M)
    (h1 : ∀ k s, hpf1 L c O k s → ∀ (K : Nat) (li : Nat → Int32), M ≤ K → li 1 = 1 → wpX12_auto2 K 1 (hso u (hq_two P k s) (hq_shut o k s)) li lj Q)
    (h2 : ∀ j, (∀ k s, ¬ hpf1 L c O k s) → hpf2 c O j → ∀ (K : Nat) (li : Nat → Int32), M ≤ K → li 1 = 1 → wpX12_auto2 K 1 (hso u P (upd o j 0)) li lj Q)
    (h0 : (∀ k, k < c → ¬ O k) → Q (hso u P o)) :
    ∀ (d i K : Nat) (li : Nat → Int32), i + d = c → 2 * d + M + 10 ≤ K → li 1 = 0 → li 3 = nI i → (∀ k, k < i → ∀ s, ¬ (O k ∧ hpo L c O k s)) → ((li 2 = -1 ∧ ∀ k, k < i → ¬ O k) ∨ ∃ k, k < i ∧ li 2 = nI k ∧ O k ∧ ∀ k', k' < i → O k' → k' ≤ k) → wpX12_auto2 K 2 (hso u P o) li lj Q := by
  have hc := hL.1
  intro d
  induction d with
  | zero =>
    intro i K li hd hK e1 e3 hs hl
    obtain ⟨K, rfl⟩ : ∃ K', K = K' + 3 := ⟨K - 3, by omega⟩
    obtain rfl : i = c := by omega
    have no : ∀ k s, ¬ hpf1 L i O k s := fun k s w => hs k w.1 s ⟨w.2.1, w.2.2.1⟩
    show wbX12_auto2_2 (wpX12_auto2 (K + 2)) (K + 2) (hso u P o) li lj Q
    refine ⟨fun _ => ?_, fun x => absurd (show u.1 3 ≤ li 3 by rw [hM.1, e3]; exact nI_le (by omega) (by omega)) x⟩
    show wbX12_auto2_4 (wpX12_auto2 (K + 1)) (K + 1) (hso u P o) li lj Q
    refine ⟨fun x => absurd e1 x, fun _ => ?_⟩
    rcases hl with ⟨y, nn⟩ | ⟨k, hk, y, ok, gr⟩
    · refine ⟨fun _ => ?_, fun x => absurd y x⟩
      show wbX12_auto2_5 (wpX12_auto2 K) K (hso u P o) li lj Q
      obtain ⟨K, rfl⟩ : ∃ K', K = K' + 1 := ⟨K - 1, by omega⟩
      show wbX12_auto2_1 (wpX12_auto2 K) K (hso u P o) li lj Q
      exact ⟨fun _ => h0 nn, fun x => absurd e1 x⟩
    · rw [y]
      refine ⟨fun x => absurd x (hs_nI_neg (by omega)), fun _ => ⟨vp_in_nI (by omega) (by decide), fun t13 e13 => ?_⟩⟩
      have ck : (nI k).toNatClampNeg = k := nI_clamp (by omega)
      have e13 : t13 = hso u P (upd o k 0) := by
        rw [e13, ck]; exact hso_9 u P o _
      rw [e13]
      show wbX12_auto2_5 (wpX12_auto2 K) K (hso u P (upd o k 0)) (uI li 1 1) lj Q
      exact h2 k no ⟨hk, ok, gr⟩ K _ (by omega) rfl
  | succ d ihd =>
    intro i K li hd hK e1 e3 hs hl
    obtain ⟨K, rfl⟩ : ∃ K', K = K' + 2 := ⟨K - 2, by omega⟩
    have cc : (nI i).toNatClampNeg = i := nI_clamp (by omega)
    have nx : ∀ li' : Nat → Int32, li' 1 = 0 → li' 3 = nI i → (∀ k, k < i + 1 → ∀ s, ¬ (O k ∧ hpo L c O k s)) → ((li' 2 = -1 ∧ ∀ k, k < i + 1 → ¬ O k) ∨ ∃ k, k < i + 1 ∧ li' 2 = nI k ∧ O k ∧ ∀ k', k' < i + 1 → O k' → k' ≤ k) → wpX12_auto2 (K + 1) 3 (hso u P o) li' lj Q := by
      intro li' a1 a3 as a2
      show wbX12_auto2_3 (wpX12_auto2 K) K (hso u P o) li' lj Q
      intro v e
      have e : v = nI (i + 1) := by rw [e, a3]; exact hs_inc i
      exact ihd (i + 1) K (uI li' 3 v) (by omega) (by omega) a1 e as a2
    show wbX12_auto2_2 (wpX12_auto2 (K + 1)) (K + 1) (hso u P o) li lj Q
    unfold wbX12_auto2_2
    rw [e1, e3]
    refine ⟨fun x => absurd (show u.1 3 ≤ nI i from x) (by rw [hM.1]; exact nI_ge (by omega) (by omega)), fun _ => ⟨fun x => absurd rfl x, fun _ => ⟨vp_in_nI (by omega) (by decide), fun v5 e5 => ?_⟩⟩⟩
    have e5 : v5 = o i := e5.trans (congrArg o cc)
    refine ⟨fun z => ?_, fun nz => ?_⟩
    · have noi : ¬ O i := fun w => (hO i (by omega)).mpr w (e5.symm.trans z)
      refine nx li e1 e3 (fun k hk s w => ?_) ?_
      · by_cases x : k = i
        · exact noi (x ▸ w.1)
        · exact hs k (by omega) s w
      · rcases hl with ⟨y, nn⟩ | ⟨k, hk, y, ok, gr⟩
        · refine Or.inl ⟨y, fun k hk ok => ?_⟩
          by_cases x : k = i
          · exact noi (x ▸ ok)
          · exact nn k (by omega) ok
        · refine Or.inr ⟨k, by omega, y, ok, fun k' hk' ok' => ?_⟩
          by_cases x : k' = i
          · exact absurd (x ▸ ok') noi
          · exact gr k' (by omega) ok'
    · have oi : O i := (hO i (by omega)).mp (fun q => nz (e5.trans q))
      refine hmx_onlyOver (t := hso u P o) (f := i) hM hL hO (by omega) (by omega) (fun s w => ?_) (fun no => ?_)
      · have sc := w.1
        refine ⟨fun x => absurd x (hs_nI_neg (by omega)), fun _ => ?_⟩
        refine hq_closes (by omega) (by omega) (by omega) ?_
        have st : hq_close (hso u P o) i s = hso u (hq_two P i s) (hq_shut o i s) := by
          show sA (sA (sA (sA u 4 P) 9 o) 4 (hq_two P i s)) 9 (hq_shut o i s) = sA (sA u 4 (hq_two P i s)) 9 (hq_shut o i s)
          unfold sA
          refine Prod.ext rfl (Prod.ext rfl (Prod.ext ?_ rfl))
          funext j
          unfold uI
          show cond (Nat.beq j 9) _ (cond (Nat.beq j 4) _ (cond (Nat.beq j 9) _ (cond (Nat.beq j 4) _ _))) = cond (Nat.beq j 9) _ (cond (Nat.beq j 4) _ _)
          cases Nat.beq j 9 <;> cases Nat.beq j 4 <;> rfl
        rw [st]
        exact hmx_auto2_back (h1 i s ⟨by omega, oi, w, fun j hj r z => hs j hj r z⟩) (K + 1) _ (by omega) rfl
      · refine ⟨fun _ => ?_, fun x => absurd rfl x⟩
        refine nx _ e1 e3 (fun k hk s w => ?_) (Or.inr ⟨i, by omega, rfl, oi, fun k' hk' _ => by omega⟩)
        by_cases x : k = i
        · exact no s (x ▸ w.2)
        · exact hs k (by omega) s w
theorem hmx_auto2_out {u : XT} {L X : Nat → Int32} {c : Nat} {lj : Nat → Int64} {Q : XT → Prop} (hM : hmE u L c) (hL : hnL L c) (hQ : ∀ o, Q (hso u X o)) :
    ∀ (d K : Nat) (O : Nat → Prop) (P o li : Nat → Int32), 200 * d + 600 ≤ K → (∀ k, k < c → (o k ≠ 0 ↔ O k)) → hst_n O c ≤ d → hpe L c d O P = X → li 1 = 1 → wpX12_auto2 K 1 (hso u P o) li lj Q := by
  have hc := hL.1
  intro d
  induction d with
  | zero =>
    intro K O P o li hK hO hn hx e1
    obtain ⟨K, rfl⟩ : ∃ K', K = K' + 1 := ⟨K - 1, by omega⟩
    have n0 := hst_0 (p := O) (c := c) (by omega)
    show wbX12_auto2_1 (wpX12_auto2 K) K (hso u P o) li lj Q
    refine ⟨fun x => absurd x (by rw [e1]; decide), fun _ => ?_⟩
    have hx : P = X := hx
    subst hx
    exact hmx_auto2_in (M := 300) hM hL hO (by omega) (fun k s w => absurd w.2.1 (n0 k w.1)) (fun j _ w => absurd w.2.1 (n0 j w.1)) (fun _ => hQ o) c 0 K _ (by omega) (by omega) rfl rfl (fun k hk => absurd hk (by omega)) (Or.inl ⟨rfl, fun k hk => absurd hk (by omega)⟩)
  | succ d ih =>
    intro K O P o li hK hO hn hx e1
    obtain ⟨K, rfl⟩ : ∃ K', K = K' + 1 := ⟨K - 1, by omega⟩
    show wbX12_auto2_1 (wpX12_auto2 K) K (hso u P o) li lj Q
    refine ⟨fun x => absurd x (by rw [e1]; decide), fun _ => ?_⟩
    obtain ⟨M, hMd⟩ : ∃ M, M = 200 * d + 600 := ⟨_, rfl⟩
    refine hmx_auto2_in (M := M) hM hL hO (by omega) (fun k s w K' li' hK' a1 => ?_) (fun j no w K' li' hK' a1 => ?_) (fun no => ?_) c 0 K _ (by omega) (by omega) rfl rfl (fun k hk => absurd hk (by omega)) (Or.inl ⟨rfl, fun k hk => absurd hk (by omega)⟩)
    · rw [hpe_1 w] at hx
      have ks : k < s := w.2.2.1.2.2.1.1
      have d1 := hst_del w.2.2.1.1 w.2.2.1.2.1
      have d2 := hst_del (p := fun j => O j ∧ j ≠ s) w.1 ⟨w.2.1, by omega⟩
      refine ih K' _ _ _ li' (by omega) (fun j hj => ?_) (by omega) hx a1
      have e : hq_shut o k s j = if j = s then 0 else if j = k then 0 else o j := rfl
      rw [e]
      by_cases x : j = s
      · rw [if_pos x]; exact ⟨fun q => absurd rfl q, fun q => absurd x q.1.2⟩
      · rw [if_neg x]
        by_cases y : j = k
        · rw [if_pos y]; exact ⟨fun q => absurd rfl q, fun q => absurd y q.2⟩
        · rw [if_neg y, hO j hj]; exact ⟨fun q => ⟨⟨q, x⟩, y⟩, fun q => q.1.1⟩
    · rw [hpe_2 no w] at hx
      have d1 := hst_del w.1 w.2.1
      refine ih K' _ _ _ li' (by omega) (fun k hk => ?_) (by omega) hx a1
      have e : upd o j 0 k = if k = j then 0 else o k := rfl
      rw [e]
      by_cases x : k = j
      · rw [if_pos x]; exact ⟨fun q => absurd rfl q, fun q => absurd x q.2⟩
      · rw [if_neg x, hO k hk]; exact ⟨fun q => ⟨q, x⟩, fun q => q.1⟩
    · rw [hpe_0 no] at hx
      subst hx
      exact hQ o
theorem hmx_auto2 {u : XT} {L P : Nat → Int32} {c K : Nat} {Q : XT → Prop} (hM : hmE u L c) (hL : hnL L c) (hK : 20000 ≤ K) (hQ : ∀ o, Q (hso u (hpe L c 60 (fun k => ¬ hm_gone u k ≠ 0) (hq_clr c P)) o)) : wqX12_auto2 K (sA u 4 P) Q := by
  have hc := hL.1
  obtain ⟨K, rfl⟩ : ∃ K', K = K' + 1 := ⟨K - 1, by omega⟩
  show wbX12_auto2_0 (wpX12_auto2 K) K (sA u 4 P) (fun _ => 0) (fun _ => 0) Q
  refine hmx_opensAll (t := sA u 4 P) hM.1 hc (by omega) (fun G hG => ?_)
  have st : sA (sA (sA u 4 P) 4 (hq_clr c ((sA u 4 P).2.2.1 4))) 9 G = hso u (hq_clr c P) G := by
    show sA (sA (sA u 4 P) 4 (hq_clr c P)) 9 G = _
    rw [hm_sAA]; rfl
  rw [st]
  have l := hst_le (fun k => ¬ hm_gone u k ≠ 0) c
  exact hmx_auto2_out hM hL hQ 60 K (fun k => ¬ hm_gone u k ≠ 0) _ G _ (by omega) (fun k hk => (hG k hk).trans ⟨fun w z => z w, fun w => Classical.byContradiction w⟩) (Nat.le_trans l hc) rfl rfl
