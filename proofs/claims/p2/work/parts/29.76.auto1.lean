/-! ===== auto 0 of the class; auto 1, exactly, on both sides ===== -/
theorem hpx_up_out {u t0 : XT} {L : Nat → Int32} {c : Nat} {X : Nat → Int32} {Q : XT → Prop} (hE0 : hcE t0 L c) (hM : hmE u L c) (hL : hnL L c) (hQ : ∀ t', hpK t' = hpK t0 → hpX t' c X (fun k => hm_gone u k ≠ 0) → Q t') :
    ∀ (d f K : Nat) (P : Nat → Int32) (t : XT) (li : Nat → Int32) (lj : Nat → Int64), f + d = c → 200 * d + 500 ≤ K → hag u c P → hpK t = hpK t0 → hpX t c P (fun k => hm_gone u k ≠ 0) → hao0 u c L d f P = X → li 1 = nI f → wpX11_pairUpwards K 1 t li lj Q := by
  have hc := hL.1
  intro d
  induction d with
  | zero =>
    intro f K P t li lj hd hK hg hk hX hP e1
    obtain ⟨K, rfl⟩ : ∃ K', K = K' + 1 := ⟨K - 1, by omega⟩
    obtain rfl : f = c := by omega
    have hP : P = X := hP
    subst hP
    have e44 : t.1 4 = nI f := (congrArg (fun q => q.1.1) hk).trans hE0.1
    show wbX11_pairUpwards_1 (wpX11_pairUpwards K) K t li lj Q
    exact ⟨fun _ => hQ t hk hX, fun x => absurd (show t.1 4 ≤ li 1 by rw [e44, e1]; exact nI_le (by omega) (by omega)) x⟩
  | succ d ih =>
    intro f K P t li lj hd hK hg hk hX hP e1
    obtain ⟨K, rfl⟩ : ∃ K', K = K' + 2 := ⟨K - 2, by omega⟩
    have hP : hao0 u c L d (f + 1) (hai0 u c L f d (f + 1) P) = X := hP
    have e44 : t.1 4 = nI c := (congrArg (fun q => q.1.1) hk).trans hE0.1
    have cf : (nI f).toNatClampNeg = f := nI_clamp (by omega)
    have hE := hcE_K hk hE0
    obtain ⟨M, hMd⟩ : ∃ M, M = 200 * d + 501 := ⟨_, rfl⟩
    have two : ∀ (v : Int64), (∀ k, hb v k = true ↔ (k < c ∧ hm_gone u f = 0 ∧ P f = -1 ∧ hnF L k f ∧ hm_gone u k = 0 ∧ P k = -1)) → wpX11_pairUpwards (K + 1) 2 t li (uI lj 100 v) Q := by
      intro v hv
      show wbX11_pairUpwards_2 (wpX11_pairUpwards K) K t li (uI lj 100 v) Q
      intro v7 e7
      have e7 : v7 = nI (f + 1) := by rw [e7, e1]; exact nI_1 f
      refine hpx_up_in (X := hai0 u c L f d (f + 1) P) (lj0 := lj) hE0 hM hL (by omega) M (by omega) (fun K' t' li' lj' hK' k' x' g' a1 => ?_) hg d (f + 1) K t _ _ (by omega) (by omega) (by omega) hk hX rfl e1 e7 (fun k _ => hv k)
      obtain ⟨K', rfl⟩ : ∃ K2, K' = K2 + 1 := ⟨K' - 1, by omega⟩
      show wbX11_pairUpwards_5 (wpX11_pairUpwards K') K' t' li' lj' Q
      intro v e
      exact ih (f + 1) K' _ t' _ lj' (by omega) (by omega) g' k' x' hP (by show v = _; rw [e, a1]; exact hs_inc f)
    show wbX11_pairUpwards_1 (wpX11_pairUpwards (K + 1)) (K + 1) t li lj Q
    unfold wbX11_pairUpwards_1
    rw [e1]
    refine ⟨fun x => absurd (show t.1 4 ≤ nI f from x) (by rw [e44]; exact nI_ge (by omega) (by omega)), fun _ => ?_⟩
    refine hpx_isCritical hX hc (by omega) (by omega) (fun gf ef => ⟨fun z => absurd z (by decide), fun _ => ?_⟩) (fun no => ⟨fun _ => two 0 (fun k => ?_), fun z => absurd rfl z⟩)
    · have gf0 : hm_gone u f = 0 := Classical.byContradiction gf
      refine ⟨vp_in_nI (n := f) (by omega) (by decide), fun v4 e4 => hpx_unpaired hX hc (by omega) (fun v5 hv5 v6 e6 => two v6 (fun k => ?_))⟩
      have e4 : v4 = t.2.2.2 1 f := e4.trans (congrArg (t.2.2.2 1) cf)
      rw [e6, hb_and, Bool.and_eq_true, e4, hE.2.2.2.2.2.1 f k, hv5 k]
      exact ⟨fun w => ⟨w.1.1, gf0, ef, w.1.2, Classical.byContradiction w.2.2.1, w.2.2.2⟩, fun w => ⟨⟨w.1, w.2.2.2.1⟩, w.1, fun z => z w.2.2.2.2.1, w.2.2.2.2.2⟩⟩
    · rw [hb_0]
      exact ⟨fun w => absurd w (by decide), fun w => absurd ⟨fun z => z w.2.1, w.2.2.1⟩ no⟩
theorem hpx_up {u t : XT} {L : Nat → Int32} {c K : Nat} {P : Nat → Int32} {Q : XT → Prop} (hE : hcE t L c) (hM : hmE u L c) (hL : hnL L c) (hX : hpX t c P (fun k => hm_gone u k ≠ 0)) (hg : hag u c P) (hK : 13000 ≤ K) (hQ : ∀ t', hpK t' = hpK t → hpX t' c (hao0 u c L c 0 P) (fun k => hm_gone u k ≠ 0) → Q t') : wqX11_pairUpwards K t Q := by
  have hc := hL.1
  obtain ⟨K, rfl⟩ : ∃ K', K = K' + 1 := ⟨K - 1, by omega⟩
  show wpX11_pairUpwards K 1 t (uI (fun _ => 0) 1 0) (fun _ => 0) Q
  exact hpx_up_out hE hM hL hQ c 0 K P t _ _ (by omega) (by omega) hg rfl hX rfl rfl
theorem hmx_auto0 {u : XT} {L : Nat → Int32} {c K : Nat} {P F : Nat → Int32} {Q : XT → Prop} (hM : hmE u L c) (hL : hnL L c) (hg : hag u c P) (hK : 60000 ≤ K) (hQ : ∀ F', hag u c (hao0 u c L c 0 P) → Q (hsv u (hao0 u c L c 0 P) F')) : wqX12_auto0 K (hsv u P F) Q := by
  have hc := hL.1
  obtain ⟨K, rfl⟩ : ∃ K', K = K' + 1 := ⟨K - 1, by omega⟩
  show wpX12_auto0 K 1 (hsv u P F) (uI (fun _ => 0) 1 0) (fun _ => 0) Q
  exact hmx_auto0_out (lj := fun _ => 0) hM hL hQ c 0 K P F _ (by omega) (by omega) hg rfl rfl
/-! auto 1 -/
noncomputable def hai1 (u : XT) (c : Nat) (L : Nat → Int32) (s : Nat) : Nat → (Nat → Int32) → (Nat → Int32)
  | 0, P => P
  | f + 1, P => hai1 u c L s f (hau u c L P f s)
noncomputable def hao1 (u : XT) (c : Nat) (L : Nat → Int32) : Nat → (Nat → Int32) → (Nat → Int32)
  | 0, P => P
  | s + 1, P => hao1 u c L s (hai1 u c L s s P)
theorem hai1_s {u : XT} {c : Nat} {L : Nat → Int32} {s : Nat} : ∀ (f : Nat) (P : Nat → Int32), ¬ (hm_gone u s = 0 ∧ P s = -1) → hai1 u c L s f P = P := by
  intro f
  induction f with
  | zero => exact fun _ _ => rfl
  | succ f ih =>
    intro P h
    show hai1 u c L s f (hau u c L P f s) = P
    rw [hau0 (fun w => h ⟨w.2.1, w.2.2.2.1⟩)]
    exact ih P h
theorem hmx_auto1_in {u : XT} {L : Nat → Int32} {c s : Nat} {X : Nat → Int32} {lj : Nat → Int64} {Q : XT → Prop} (hM : hmE u L c) (hL : hnL L c) (hs : s < c) (M : Nat) (hMK : 40000 ≤ M)
    (cont : ∀ (K' : Nat) (F li' : Nat → Int32), M ≤ K' → hag u c X → li' 1 = nI s → wpX12_auto1 K' 4 (hsv u X F) li' lj Q) :
    ∀ (f K : Nat) (P F li : Nat → Int32), f ≤ s → 2 * f + M + 1 ≤ K → hag u c P → hai1 u c L s f P = X → li 1 = nI s → li 2 = nI f - 1 → wpX12_auto1 K 2 (hsv u P F) li lj Q := by
  have hc := hL.1
  intro f
  induction f with
  | zero =>
    intro K P F li hfs hK hg hX e1 e2
    obtain ⟨K, rfl⟩ : ∃ K', K = K' + 1 := ⟨K - 1, by omega⟩
    have hX : P = X := hX
    subst hX
    show wbX12_auto1_2 (wpX12_auto1 K) K (hsv u P F) li lj Q
    refine ⟨fun _ => cont K F li (by omega) hg e1, fun x => absurd ?_ x⟩
    show li 2 < 0
    rw [e2]; decide
  | succ f ih =>
    intro K P F li hfs hK hg hX e1 e2
    obtain ⟨K, rfl⟩ : ∃ K', K = K' + 2 := ⟨K - 2, by omega⟩
    have e2 : li 2 = nI f := e2.trans (nI_pred f)
    have hX : hai1 u c L s f (hau u c L P f s) = X := hX
    have nx : ∀ F', wpX12_auto1 (K + 1) 3 (hsv u (hau u c L P f s) F') li lj Q := by
      intro F'
      show wbX12_auto1_3 (wpX12_auto1 K) K (hsv u (hau u c L P f s) F') li lj Q
      intro v e
      exact ih K _ F' _ (by omega) (by omega) (hau_g hM hL (by omega) hs hg) hX e1 (by show v = _; rw [e, e2]; exact hq_dec f)
    have same : ¬ (hm_gone u f = 0 ∧ hm_gone u s = 0 ∧ P f = -1 ∧ P s = -1 ∧ hnF L s f ∧ hm_acyc (sA u 4 (hq_two P f s)) c) → wpX12_auto1 (K + 1) 3 (hsv u P F) li lj Q := by
      intro no
      have q := nx F
      rw [hau0 no] at q
      exact q
    show wbX12_auto1_2 (wpX12_auto1 (K + 1)) (K + 1) (hsv u P F) li lj Q
    unfold wbX12_auto1_2
    rw [e1, e2]
    refine ⟨fun x => absurd x (nI_pos (by omega)), fun _ => ?_⟩
    refine hm_isCritical (t := hsv u P F) (a := nI s) hM.1 hc (by omega) (fun s' hs' es' cr => ⟨fun z => absurd z (by decide), fun _ => ?_⟩) (fun no => ⟨fun _ => ?_, fun z => absurd rfl z⟩)
    · have fi := hf_face (t := hsv u P F) hM hL (show f < c by omega) hs
      refine hm_isFaceThere (t := hsv u P F) (by omega) (by omega) (by omega) (fun fT => ⟨fun z => absurd z (by decide), fun _ => ?_⟩) (fun nF => ⟨fun _ => same (fun w => nF ⟨w.1, w.2.1, fi.mpr w.2.2.2.2.1⟩), fun z => absurd rfl z⟩)
      refine hq_isFree (t := hsv u P F) (by omega) (by omega) (by omega) (fun ef es => ⟨fun z => absurd z (by decide), fun _ => ?_⟩) (fun nf => ⟨fun _ => same (fun w => nf ⟨w.2.2.1, w.2.2.2.1⟩), fun z => absurd rfl z⟩)
      exact hsv_couples hM hL hg (by omega) hs fT.1 fT.2.1 ef es (fi.mp fT.2.2) (by omega) (fun r F' => nx F')
    · have ncr : ¬ (hm_gone u s = 0 ∧ P s = -1) := fun w => no s hs rfl ⟨w.1, w.2⟩
      rw [hau0 (fun w => ncr ⟨w.2.1, w.2.2.2.1⟩), hai1_s f P ncr] at hX
      subst hX
      exact cont (K + 1) F li (by omega) hg e1
theorem hmx_auto1_out {u : XT} {L : Nat → Int32} {c : Nat} {X : Nat → Int32} {lj : Nat → Int64} {Q : XT → Prop} (hM : hmE u L c) (hL : hnL L c) (hQ : ∀ F, hag u c X → Q (hsv u X F)) :
    ∀ (s K : Nat) (P F li : Nat → Int32), s ≤ c → 200 * s + 41000 ≤ K → hag u c P → hao1 u c L s P = X → li 1 = nI s - 1 → wpX12_auto1 K 1 (hsv u P F) li lj Q := by
  have hc := hL.1
  intro s
  induction s with
  | zero =>
    intro K P F li hs hK hg hX e1
    obtain ⟨K, rfl⟩ : ∃ K', K = K' + 1 := ⟨K - 1, by omega⟩
    have hX : P = X := hX
    subst hX
    show wbX12_auto1_1 (wpX12_auto1 K) K (hsv u P F) li lj Q
    refine ⟨fun _ => hQ F hg, fun x => absurd ?_ x⟩
    show li 1 < 0
    rw [e1]; decide
  | succ s ih =>
    intro K P F li hs hK hg hX e1
    obtain ⟨K, rfl⟩ : ∃ K', K = K' + 1 := ⟨K - 1, by omega⟩
    have e1 : li 1 = nI s := e1.trans (nI_pred s)
    have hX : hao1 u c L s (hai1 u c L s s P) = X := hX
    show wbX12_auto1_1 (wpX12_auto1 K) K (hsv u P F) li lj Q
    unfold wbX12_auto1_1
    refine ⟨fun x => absurd x (by rw [e1]; exact nI_pos (by omega)), fun _ v2 e2 => ?_⟩
    rw [e1] at e2
    obtain ⟨M, hMd⟩ : ∃ M, M = 200 * s + 41001 := ⟨_, rfl⟩
    refine hmx_auto1_in (X := hai1 u c L s s P) hM hL (by omega) M (by omega) (fun K' F' li' hK' hg' a1 => ?_) s K P F _ (Nat.le_refl s) (by omega) hg rfl e1 e2
    obtain ⟨K', rfl⟩ : ∃ K2, K' = K2 + 1 := ⟨K' - 1, by omega⟩
    show wbX12_auto1_4 (wpX12_auto1 K') K' (hsv u (hai1 u c L s s P) F') li' lj Q
    intro v e
    exact ih K' _ F' _ (by omega) (by omega) hg' hX (by show v = _; rw [e, a1]; exact hq_dec s)
theorem hmx_auto1 {u : XT} {L : Nat → Int32} {c K : Nat} {P F : Nat → Int32} {Q : XT → Prop} (hM : hmE u L c) (hL : hnL L c) (hg : hag u c P) (hK : 60000 ≤ K) (hQ : ∀ F', hag u c (hao1 u c L c P) → Q (hsv u (hao1 u c L c P) F')) : wqX12_auto1 K (hsv u P F) Q := by
  have hc := hL.1
  obtain ⟨K, rfl⟩ : ∃ K', K = K' + 1 := ⟨K - 1, by omega⟩
  show wbX12_auto1_0 (wpX12_auto1 K) K (hsv u P F) (fun _ => 0) (fun _ => 0) Q
  intro v1 e1
  have e1 : v1 = nI c - 1 := by rw [e1]; exact congrArg (· - 1) hM.1
  exact hmx_auto1_out (lj := fun _ => 0) hM hL hQ c K P F _ (Nat.le_refl c) (by omega) hg rfl e1
theorem hpx_dn_in {u t0 : XT} {L : Nat → Int32} {c s : Nat} {X P : Nat → Int32} {Q : XT → Prop} (hE0 : hcE t0 L c) (hM : hmE u L c) (hL : hnL L c) (hs : s < c) (M : Nat) (hMK : 300 ≤ M)
    (cont : ∀ (K' : Nat) (t' : XT) (li' : Nat → Int32) (lj' : Nat → Int64), M ≤ K' → hpK t' = hpK t0 → hpX t' c X (fun k => hm_gone u k ≠ 0) → hag u c X → li' 1 = nI s → wpX11_pairDownwards K' 5 t' li' lj' Q) (hg : hag u c P) :
    ∀ (f K : Nat) (t : XT) (li : Nat → Int32) (lj : Nat → Int64), f ≤ s → 2 * f + M + 1 ≤ K → hpK t = hpK t0 → hpX t c P (fun k => hm_gone u k ≠ 0) → hai1 u c L s f P = X → li 1 = nI s → li 4 = nI f - 1 →
      (∀ k, k < f → (hb (lj 2) k = true ↔ (hm_gone u s = 0 ∧ P s = -1 ∧ hnF L s k ∧ hm_gone u k = 0 ∧ P k = -1))) → wpX11_pairDownwards K 3 t li lj Q := by
  have hc := hL.1
  intro f
  induction f with
  | zero =>
    intro K t li lj hfs hK hk hX hP e1 e4 hb2
    obtain ⟨K, rfl⟩ : ∃ K', K = K' + 1 := ⟨K - 1, by omega⟩
    have hP : P = X := hP
    subst hP
    show wbX11_pairDownwards_3 (wpX11_pairDownwards K) K t li lj Q
    refine ⟨fun _ => cont K t li lj (by omega) hk hX hg e1, fun x => absurd ?_ x⟩
    show li 4 < 0
    rw [e4]; decide
  | succ f ih =>
    intro K t li lj hfs hK hk hX hP e1 e4 hb2
    obtain ⟨K, rfl⟩ : ∃ K', K = K' + 2 := ⟨K - 2, by omega⟩
    have e4 : li 4 = nI f := e4.trans (nI_pred f)
    have hP : hai1 u c L s f (hau u c L P f s) = X := hP
    have hE := hcE_K hk hE0
    have nx : hau u c L P f s = P → wpX11_pairDownwards (K + 1) 4 t li lj Q := by
      intro q
      rw [q] at hP
      show wbX11_pairDownwards_4 (wpX11_pairDownwards K) K t li lj Q
      intro v e
      exact ih K t _ lj (by omega) (by omega) hk hX hP e1 (by show v = _; rw [e, e4]; exact hq_dec f) (fun k a => hb2 k (by omega))
    show wbX11_pairDownwards_3 (wpX11_pairDownwards (K + 1)) (K + 1) t li lj Q
    unfold wbX11_pairDownwards_3
    rw [e1, e4]
    refine ⟨fun x => absurd x (nI_pos (by omega)), fun _ v9 e9 => ⟨fun z => ?_, fun _ => ?_⟩⟩
    · rw [e9] at z
      have no : ∀ k, k < f + 1 → hau u c L P k s = P := by
        intro k a
        refine hau0 (fun w => ?_)
        have := (hb2 k a).mpr ⟨w.2.1, w.2.2.2.1, w.2.2.2.2.1, w.1, w.2.2.1⟩
        rw [hb_z z k] at this
        exact absurd this (by decide)
      have all : ∀ k, k ≤ f + 1 → hai1 u c L s k P = P := by
        intro k
        induction k with
        | zero => exact fun _ => rfl
        | succ k ih2 =>
          intro a
          show hai1 u c L s k (hau u c L P k s) = P
          rw [no k (by omega)]
          exact ih2 (by omega)
      have hP2 : P = X := by
        rw [no f (by omega), all f (by omega)] at hP
        exact hP
      subst hP2
      exact cont (K + 1) t li lj (by omega) hk hX hg e1
    · refine hw_isIn (by omega) (by omega) (fun y => ⟨fun z => absurd z (by decide), fun _ => ?_⟩) (fun y => ⟨fun _ => nx (hau0 (fun w => ?_)), fun z => absurd rfl z⟩)
      · obtain ⟨gs, es, fF, gf, ef⟩ := (hb2 f (by omega)).mp y
        refine hst_acyc (tm := sA u 4 P) hE hX hM hL hg.1 hg.2 (show f < c by omega) hs fF.1 ef es (by omega) (fun hA => ⟨fun z => absurd z (by decide), fun _ => ?_⟩) (fun nA => ⟨fun _ => nx (hau0 (fun w => nA w.2.2.2.2.2)), fun z => absurd rfl z⟩)
        have cond : hm_gone u f = 0 ∧ hm_gone u s = 0 ∧ P f = -1 ∧ P s = -1 ∧ hnF L s f ∧ hm_acyc (sA u 4 (hq_two P f s)) c := ⟨gf, gs, ef, es, fF, hA⟩
        refine hpx_unite hX hc fF.1 hs ef es (by omega) (fun t15 k15 x15 => ?_)
        have nf : ¬ (hm_gone u s = 0 ∧ hq_two P f s s = -1) := by
          intro w
          have e : hq_two P f s s = nI f := if_pos rfl
          exact hs_nI_neg (by omega) (e.symm.trans w.2)
        have hg2 := hau_g (f := f) hM hL (by omega) hs hg
        rw [hau1 cond] at hP hg2
        rw [hai1_s f _ nf] at hP
        subst hP
        show wbX11_pairDownwards_4 (wpX11_pairDownwards K) K t15 li (uI lj 2 0) Q
        intro v e
        obtain ⟨K, rfl⟩ : ∃ K', K = K' + 1 := ⟨K - 1, by omega⟩
        show wbX11_pairDownwards_3 (wpX11_pairDownwards K) K t15 (uI li 4 v) (uI lj 2 0) Q
        have five : wpX11_pairDownwards K 5 t15 (uI li 4 v) (uI lj 2 0) Q := cont K t15 _ _ (by omega) (k15.trans hk) x15 hg2 e1
        exact ⟨fun _ => five, fun _ v9 e9 => ⟨fun _ => five, fun z => absurd (e9.trans (show lg_cmp (0 : Int64) 0 = 0 by decide)) z⟩⟩
      · have := (hb2 f (by omega)).mpr ⟨w.2.1, w.2.2.2.1, w.2.2.2.2.1, w.1, w.2.2.1⟩
        rw [y] at this
        exact absurd this (by decide)
theorem hpx_dn_out {u t0 : XT} {L : Nat → Int32} {c : Nat} {X : Nat → Int32} {Q : XT → Prop} (hE0 : hcE t0 L c) (hM : hmE u L c) (hL : hnL L c) (hQ : ∀ t', hpK t' = hpK t0 → hpX t' c X (fun k => hm_gone u k ≠ 0) → Q t') :
    ∀ (s K : Nat) (P : Nat → Int32) (t : XT) (li : Nat → Int32) (lj : Nat → Int64), s ≤ c → 200 * s + 500 ≤ K → hag u c P → hpK t = hpK t0 → hpX t c P (fun k => hm_gone u k ≠ 0) → hao1 u c L s P = X → li 1 = nI s - 1 → wpX11_pairDownwards K 1 t li lj Q := by
  have hc := hL.1
  intro s
  induction s with
  | zero =>
    intro K P t li lj hs hK hg hk hX hP e1
    obtain ⟨K, rfl⟩ : ∃ K', K = K' + 1 := ⟨K - 1, by omega⟩
    have hP : P = X := hP
    subst hP
    show wbX11_pairDownwards_1 (wpX11_pairDownwards K) K t li lj Q
    refine ⟨fun _ => hQ t hk hX, fun x => absurd ?_ x⟩
    show li 1 < 0
    rw [e1]; decide
  | succ s ih =>
    intro K P t li lj hs hK hg hk hX hP e1
    obtain ⟨K, rfl⟩ : ∃ K', K = K' + 2 := ⟨K - 2, by omega⟩
    have e1 : li 1 = nI s := e1.trans (nI_pred s)
    have hP : hao1 u c L s (hai1 u c L s s P) = X := hP
    have cs : (nI s).toNatClampNeg = s := nI_clamp (by omega)
    have hE := hcE_K hk hE0
    obtain ⟨M, hMd⟩ : ∃ M, M = 200 * s + 501 := ⟨_, rfl⟩
    have two : ∀ (v : Int64), (∀ k, k < s → (hb v k = true ↔ (hm_gone u s = 0 ∧ P s = -1 ∧ hnF L s k ∧ hm_gone u k = 0 ∧ P k = -1))) → wpX11_pairDownwards (K + 1) 2 t li (uI lj 100 v) Q := by
      intro v hv
      show wbX11_pairDownwards_2 (wpX11_pairDownwards K) K t li (uI lj 100 v) Q
      intro v7 e7
      rw [e1] at e7
      refine hpx_dn_in (X := hai1 u c L s s P) hE0 hM hL (by omega) M (by omega) (fun K' t' li' lj' hK' k' x' g' a1 => ?_) hg s K t _ _ (Nat.le_refl s) (by omega) hk hX rfl e1 e7 hv
      obtain ⟨K', rfl⟩ : ∃ K2, K' = K2 + 1 := ⟨K' - 1, by omega⟩
      show wbX11_pairDownwards_5 (wpX11_pairDownwards K') K' t' li' lj' Q
      intro v e
      exact ih K' _ t' _ lj' (by omega) (by omega) g' k' x' hP (by show v = _; rw [e, a1]; exact hq_dec s)
    show wbX11_pairDownwards_1 (wpX11_pairDownwards (K + 1)) (K + 1) t li lj Q
    unfold wbX11_pairDownwards_1
    rw [e1]
    refine ⟨fun x => absurd x (nI_pos (by omega)), fun _ => ?_⟩
    refine hpx_isCritical hX hc (by omega) (by omega) (fun gs es => ⟨fun z => absurd z (by decide), fun _ => ?_⟩) (fun no => ⟨fun _ => two 0 (fun k _ => ?_), fun z => absurd rfl z⟩)
    · have gs0 : hm_gone u s = 0 := Classical.byContradiction gs
      refine ⟨vp_in_nI (n := s) (by omega) (by decide), fun v4 e4 => hpx_unpaired hX hc (by omega) (fun v5 hv5 v6 e6 => two v6 (fun k hk => ?_))⟩
      have e4 : v4 = t.2.2.2 0 s := e4.trans (congrArg (t.2.2.2 0) cs)
      rw [e6, hb_and, Bool.and_eq_true, e4, hE.2.2.2.2.1 s k, hv5 k]
      exact ⟨fun w => ⟨gs0, es, w.1.2, Classical.byContradiction w.2.2.1, w.2.2.2⟩, fun w => ⟨⟨by omega, w.2.2.1⟩, by omega, fun z => z w.2.2.2.1, w.2.2.2.2⟩⟩
    · rw [hb_0]
      exact ⟨fun w => absurd w (by decide), fun w => absurd ⟨fun z => z w.1, w.2.1⟩ no⟩
theorem hpx_dn {u t : XT} {L : Nat → Int32} {c K : Nat} {P : Nat → Int32} {Q : XT → Prop} (hE : hcE t L c) (hM : hmE u L c) (hL : hnL L c) (hX : hpX t c P (fun k => hm_gone u k ≠ 0)) (hg : hag u c P) (hK : 13000 ≤ K) (hQ : ∀ t', hpK t' = hpK t → hpX t' c (hao1 u c L c P) (fun k => hm_gone u k ≠ 0) → Q t') : wqX11_pairDownwards K t Q := by
  have hc := hL.1
  obtain ⟨K, rfl⟩ : ∃ K', K = K' + 1 := ⟨K - 1, by omega⟩
  show wbX11_pairDownwards_0 (wpX11_pairDownwards K) K t (fun _ => 0) (fun _ => 0) Q
  intro v1 e1
  have e1 : v1 = nI c - 1 := by rw [e1, hE.1]
  exact hpx_dn_out hE hM hL hQ c K P t _ _ (Nat.le_refl c) (by omega) hg rfl hX rfl e1
