/-! ===== reference, pure: laysReach, through ===== -/
theorem hq_reach_go {t : XT} {m f : Nat} {W : Nat → Int64} {A : Nat → Nat} {Q : Int32 → XT → Prop} (hm : t.1 3 = nI m) (hm60 : m ≤ 60) (hM : hm_match t m) (hf : f < m) (h2 : ∀ k, k < m → W k = hq_U ∨ (W k).toInt.natAbs ≤ A k) (hS : 1 + hm_sum A m < 2 ^ 62)
    (h1 : ∀ v : Int64, v.toInt.natAbs ≤ 1 + hm_sum A m → Q 1 (sB t 2 (vp_updL W f v)))
    (h0 : (∃ g, g < m ∧ g ≠ f ∧ W g = hq_U ∧ hm_gone t g = 0 ∧ hm_low t g ∧ hm_dim t g = hm_dim t f ∧ ∃ p, p < m ∧ hm_par t g = nI p ∧ hm_faceT t f p) → Q 0 (sB t 2 W)) :
    ∀ (d g K : Nat) (li : Nat → Int32) (lj : Nat → Int64), g + d = m → 2 * d + 20 ≤ K → (lj 3).toInt.natAbs ≤ 1 + hm_sum A g → li 1 = nI f → li 5 = nI g → wpX12_laysReach K 1 (sB t 2 W) li lj Q := by
  have cf : (nI f).toNatClampNeg = f := nI_clamp (by omega)
  intro d
  induction d with
  | zero =>
    intro g K li lj hd hK hB e1 e5
    obtain ⟨K, rfl⟩ : ∃ K', K = K' + 1 := ⟨K - 1, by omega⟩
    obtain rfl : g = m := by omega
    show wbX12_laysReach_1 (wpX12_laysReach K) K (sB t 2 W) li lj Q
    unfold wbX12_laysReach_1
    rw [e1, e5]
    refine ⟨fun _ => ⟨vp_in_nI (by omega) (by decide), fun t5 e => ?_⟩, fun x => absurd (show t.1 3 ≤ nI g by rw [hm]; exact nI_le (by omega) (by omega)) x⟩
    rw [cf, hs_sBB] at e
    rw [e]
    exact h1 _ hB
  | succ d ih =>
    intro g K li lj hd hK hB e1 e5
    obtain ⟨K, rfl⟩ : ∃ K', K = K' + 2 := ⟨K - 2, by omega⟩
    have cg : (nI g).toNatClampNeg = g := nI_clamp (by omega)
    have sg : hm_sum A (g + 1) = hm_sum A g + A g := rfl
    have sm := hq_sum_at (A := A) (g := g) m (by omega)
    have nx : ∀ (lj' : Nat → Int64), (lj' 3).toInt.natAbs ≤ 1 + hm_sum A (g + 1) → wpX12_laysReach (K + 1) 2 (sB t 2 W) li lj' Q := by
      intro lj' hB'
      show wbX12_laysReach_2 (wpX12_laysReach K) K (sB t 2 W) li lj' Q
      intro v e
      exact ih (g + 1) K (uI li 5 v) lj' (by omega) (by omega) hB' e1 (by show v = _; rw [e, e5]; exact hs_inc g)
    have same := nx lj (by omega)
    show wbX12_laysReach_1 (wpX12_laysReach (K + 1)) (K + 1) (sB t 2 W) li lj Q
    unfold wbX12_laysReach_1
    rw [e1, e5]
    refine ⟨fun x => absurd (show t.1 3 ≤ nI g from x) (by rw [hm]; exact nI_ge (by omega) (by omega)), fun _ => ⟨fun _ => same, fun ne => ?_⟩⟩
    have ne : g ≠ f := fun q => ne (congrArg nI q)
    refine hm_isThere (t := sB t 2 W) (a := nI g) hm hm60 (by omega) (fun j hj ej gj => ⟨fun x => absurd x (by decide), fun _ => ?_⟩) (fun _ => ⟨fun _ => same, fun x => absurd rfl x⟩)
    obtain rfl := (nI_eq (by omega) (by omega)).mp ej
    refine hm_isLower (t := sB t 2 W) (by omega) (by omega) (fun lo => ⟨fun x => absurd x (by decide), fun _ => ?_⟩) (fun _ => ⟨fun _ => same, fun x => absurd rfl x⟩)
    refine hm_dimOf (t := sB t 2 W) (by omega) (by omega) (hm_dimOf (t := sB t 2 W) (by omega) (by omega) ⟨fun _ => same, fun ed => ⟨vp_in_nI (by omega) (by decide), fun v14 e14 => ?_⟩⟩)
    obtain ⟨p, hp, ep⟩ := hm_match_pars hM g (by omega) lo
    have e14 : v14 = nI p := e14.trans ((congrArg (t.2.2.1 4) cg).trans ep)
    subst e14
    refine hm_isFaceThere (t := sB t 2 W) (by omega) (by omega) (by omega) (fun fc => ?_) (fun _ => ⟨fun x => absurd rfl x, fun _ => same⟩)
    refine ⟨fun _ => ⟨vp_in_nI (by omega) (by decide), fun v17 e17 v18 e18 => ⟨fun ne2 => ?_, fun y => h0 ?_⟩⟩, fun x => absurd x (by decide)⟩
    · have e17 : v17 = W g := e17.trans (congrArg W cg)
      refine ⟨vp_in_nI (by omega) (by decide), fun v20 e20 v21 e21 => nx _ ?_⟩
      have e20 : v20 = W g := e20.trans (congrArg W cg)
      have told : (W g).toInt.natAbs ≤ A g := by
        rcases h2 g (by omega) with z | z
        · exact absurd (by rw [e18, e17, z]; exact (hs_cmp0 _ _).mpr rfl) ne2
        · exact z
      show v21.toInt.natAbs ≤ 1 + hm_sum A (g + 1)
      rw [e21, e20]
      have u := hq_add1 (x := lj 3) (y := W g) (by omega)
      omega
    · have e17 : v17 = W g := e17.trans (congrArg W cg)
      refine ⟨g, by omega, ne, ?_, gj, lo, ed, p, hp, ep, fc⟩
      rw [e18, e17] at y
      exact (hs_cmp0 _ _).mp y
theorem hq_laysReach {t : XT} {m f s K : Nat} {W : Nat → Int64} {A : Nat → Nat} {Q : Int32 → XT → Prop} (hm : t.1 3 = nI m) (hm60 : m ≤ 60) (hM : hm_match t m) (hf : f < m) (hs : s < m) (h2 : ∀ k, k < m → W k = hq_U ∨ (W k).toInt.natAbs ≤ A k) (hS : 1 + hm_sum A m < 2 ^ 62) (hK : 200 ≤ K)
    (h1 : ∀ v : Int64, v.toInt.natAbs ≤ 1 + hm_sum A m → Q 1 (sB t 2 (vp_updL W f v)))
    (h0 : (∃ g, g < m ∧ g ≠ f ∧ W g = hq_U ∧ hm_gone t g = 0 ∧ hm_low t g ∧ hm_dim t g = hm_dim t f ∧ ∃ p, p < m ∧ hm_par t g = nI p ∧ hm_faceT t f p) → Q 0 (sB t 2 W)) : wqX12_laysReach K (sB t 2 W) (nI f) (nI s) Q := by
  obtain ⟨K, rfl⟩ : ∃ K', K = K' + 1 := ⟨K - 1, by omega⟩
  show wbX12_laysReach_0 (wpX12_laysReach K) K (sB t 2 W) (uI (uI (fun _ => 0) 1 (nI f)) 2 (nI s)) (fun _ => 0) Q
  have go : ∀ v : Int64, v.toInt.natAbs ≤ 1 → wpX12_laysReach K 1 (sB t 2 W) (uI (uI (uI (fun _ => 0) 1 (nI f)) 2 (nI s)) 5 0) (uI (fun _ => 0) 3 v) Q := by
    intro v hv
    exact hq_reach_go hm hm60 hM hf h2 hS h1 h0 m 0 K _ _ (by omega) (by omega) (Nat.le_trans hv (Nat.le_add_right _ _)) rfl rfl
  refine hm_isFaceThere (t := sB t 2 W) (by omega) (by omega) (by omega) (fun _ => hm_truth1 (by omega) (fun v e => go v ?_)) (fun _ => hm_truth0 (by omega) (fun v e => go v ?_))
  · rw [e]; decide
  · rw [e]; decide
theorem hq_unt_sub {m : Nat} {W W0 : Nat → Int64} (h : ∀ k, k < m → W k = hq_U → W0 k = hq_U) : hq_unt m W ≤ hq_unt m W0 := by
  unfold hq_unt
  refine hm_sum_le m (fun j hj => ?_)
  show (if W j = hq_U then 1 else 0) ≤ (if W0 j = hq_U then 1 else 0)
  by_cases x : W j = hq_U
  · rw [if_pos x, if_pos (h j hj x)]; exact Nat.le_refl _
  · rw [if_neg x]; exact Nat.zero_le _
theorem hq_unt_sub_lt {m g : Nat} {W W0 : Nat → Int64} (h : ∀ k, k < m → W k = hq_U → W0 k = hq_U) (hg : g < m) (h0 : W0 g = hq_U) (h1 : W g ≠ hq_U) : hq_unt m W < hq_unt m W0 := by
  unfold hq_unt
  refine hm_sum_lt m g hg ?_ (fun j hj => ?_)
  · show (if W g = hq_U then 1 else 0) < (if W0 g = hq_U then 1 else 0)
    rw [if_neg h1, if_pos h0]; exact Nat.zero_lt_one
  · show (if W j = hq_U then 1 else 0) ≤ (if W0 j = hq_U then 1 else 0)
    by_cases x : W j = hq_U
    · rw [if_pos x, if_pos (h j hj x)]; exact Nat.le_refl _
    · rw [if_neg x]; exact Nat.zero_le _
theorem hq_max {m : Nat} {S : Nat → Prop} {δ : Nat → Nat} (hb : ∀ g, g < m → S g → δ g < 60) : ∀ (k g : Nat), g < m → S g → 60 - δ g ≤ k → ∃ g, g < m ∧ S g ∧ ∀ g', g' < m → S g' → δ g' ≤ δ g := by
  intro k
  induction k with
  | zero =>
    intro g hg hs h
    have := hb g hg hs
    omega
  | succ k ih =>
    intro g hg hs h
    by_cases x : ∃ g', g' < m ∧ S g' ∧ δ g < δ g'
    · obtain ⟨g', a, b, c⟩ := x
      exact ih g' a b (by omega)
    · refine ⟨g, hg, hs, fun g' a b => ?_⟩
      refine Classical.byContradiction (fun y => x ⟨g', a, b, by omega⟩)
/-- what can be told next: of the faces in a PAIR that are not told, of one DIM, one to which none of them leads -/
theorem hq_next {t : XT} {m f : Nat} {d : Int32} {W : Nat → Int64} (hA : hm_acyc t m) (hf : f < m) (hU : W f = hq_U) (gf : hm_gone t f = 0) (lo : hm_low t f) (ed : hm_dim t f = d) :
    ∃ g, g < m ∧ (W g = hq_U ∧ hm_gone t g = 0 ∧ hm_low t g ∧ hm_dim t g = d) ∧ ∀ g', g' < m → g' ≠ g → W g' = hq_U → hm_gone t g' = 0 → hm_low t g' → hm_dim t g' = d → ¬ ∃ p, p < m ∧ p < 60 ∧ hm_par t g' = nI p ∧ hm_face t g p := by
  obtain ⟨δ, d1, d2⟩ := hA
  obtain ⟨g, g1, g2, g3⟩ := hq_max (m := m) (S := fun g => W g = hq_U ∧ hm_gone t g = 0 ∧ hm_low t g ∧ hm_dim t g = d) (δ := δ) (fun g hg hs => d1 g hg hs.2.2.1) 60 f hf ⟨hU, gf, lo, ed⟩ (by omega)
  refine ⟨g, g1, g2, fun g' a1 a2 a3 a4 a5 a6 ⟨p, _, b1, b2, b3⟩ => ?_⟩
  have u := d2 g' g a1 g1 a5 g2.2.2.1 (fun q => a2 q.symm) ⟨p, b1, b2, b3⟩
  have v := g3 g' a1 ⟨a3, a4, a5, a6⟩
  omega
theorem hq_thr_scan {t : XT} {m s e f0 gs : Nat} {W0 : Nat → Int64} {lj : Nat → Int64} {Q : Int64 → XT → Prop} (hm : t.1 3 = nI m) (hm60 : m ≤ 60) (hM : hm_match t m) (hs : s < m) (he : e < m)
    (g1 : gs < m) (g2 : W0 gs = hq_U ∧ hm_gone t gs = 0 ∧ hm_low t gs ∧ hm_dim t gs = hm_dim t e) (g3 : ∀ g', g' < m → g' ≠ gs → W0 g' = hq_U → hm_gone t g' = 0 → hm_low t g' → hm_dim t g' = hm_dim t e → ¬ ∃ p, p < m ∧ p < 60 ∧ hm_par t g' = nI p ∧ hm_face t gs p) (L : Nat) (hL : 250 ≤ L)
    (cont : ∀ (K' : Nat) (W : Nat → Int64) (li' : Nat → Int32), L ≤ K' → li' 1 = nI s → li' 2 = nI e → li' 6 = nI f0 → hq_ci m W → (∀ k, k < m → W k = hq_U → W0 k = hq_U) → W gs ≠ hq_U → wpX12_through K' 6 (sB t 2 W) li' lj Q) :
    ∀ (d i K : Nat) (W : Nat → Int64) (li : Nat → Int32), i + d = m → 2 * d + L + 1 ≤ K → li 1 = nI s → li 2 = nI e → li 6 = nI f0 → li 7 = nI i → hq_ci m W → (∀ k, k < m → W k = hq_U → W0 k = hq_U) → (gs < i → W gs ≠ hq_U) → wpX12_through K 7 (sB t 2 W) li lj Q := by
  intro d
  induction d with
  | zero =>
    intro i K W li hd hK e1 e2 e6 e7 hW hsub hgs
    obtain ⟨K, rfl⟩ : ∃ K', K = K' + 1 := ⟨K - 1, by omega⟩
    show wbX12_through_7 (wpX12_through K) K (sB t 2 W) li lj Q
    refine ⟨fun _ => cont K W li (by omega) e1 e2 e6 hW hsub (hgs (by omega)), fun x => absurd ?_ x⟩
    show t.1 3 ≤ li 7
    rw [hm, e7]; exact nI_le (by omega) (by omega)
  | succ d ih =>
    intro i K W li hd hK e1 e2 e6 e7 hW hsub hgs
    obtain ⟨K, rfl⟩ : ∃ K', K = K' + 2 := ⟨K - 2, by omega⟩
    have ci : (nI i).toNatClampNeg = i := nI_clamp (by omega)
    have nx : ∀ (W' : Nat → Int64), hq_ci m W' → (∀ k, k < m → W' k = hq_U → W0 k = hq_U) → (gs < i + 1 → W' gs ≠ hq_U) → wpX12_through (K + 1) 8 (sB t 2 W') li lj Q := by
      intro W' a1 a2 a3
      show wbX12_through_8 (wpX12_through K) K (sB t 2 W') li lj Q
      intro v ev
      exact ih (i + 1) K W' (uI li 7 v) (by omega) (by omega) e1 e2 e6 (by show v = _; rw [ev, e7]; exact hs_inc i) a1 a2 a3
    have same : i ≠ gs ∨ W gs ≠ hq_U → wpX12_through (K + 1) 8 (sB t 2 W) li lj Q := by
      intro q
      refine nx W hW hsub (fun h => ?_)
      rcases q with q | q
      · exact hgs (by omega)
      · exact q
    show wbX12_through_7 (wpX12_through (K + 1)) (K + 1) (sB t 2 W) li lj Q
    unfold wbX12_through_7
    rw [e1, e2, e7]
    refine ⟨fun x => absurd (show t.1 3 ≤ nI i from x) (by rw [hm]; exact nI_ge (by omega) (by omega)), fun _ => ⟨vp_in_nI (by omega) (by decide), fun v28 e28 v29 e29 => ?_⟩⟩
    have e28 : v28 = W i := e28.trans (congrArg W ci)
    rw [e28] at e29
    refine ⟨fun y => same ?_, fun y => ?_⟩
    · by_cases x : i = gs
      · refine Or.inr (fun q => y ?_)
        rw [e29, x, q]; exact (hs_cmp0 _ _).mpr rfl
      · exact Or.inl x
    have hU : W i = hq_U := by
      rw [e29] at y
      exact (hs_cmp0 _ _).mp y
    refine hm_isThere (t := sB t 2 W) (a := nI i) hm hm60 (by omega) (fun j hj ej gj => ⟨fun x => absurd x (by decide), fun _ => ?_⟩) (fun no => ⟨fun _ => same (Or.inl (fun q => ?_)), fun x => absurd rfl x⟩)
    · refine hm_dimOf (t := sB t 2 W) (by omega) (by omega) (hm_dimOf (t := sB t 2 W) (by omega) (by omega) ⟨fun nd => same (Or.inl (fun q => nd (by rw [q]; exact g2.2.2.2))), fun ed => ?_⟩)
      obtain ⟨A, w2, w3⟩ := hW
      have hW : hq_ci m W := ⟨A, w2, w3⟩
      have s62 : 1 + hm_sum A m < 2 ^ 62 := by
        have le61 : (2 : Nat) ^ (61 - hq_unt m W) ≤ 2 ^ 61 := Nat.pow_le_pow_right (by omega) (by omega)
        have : (2 : Nat) ^ 61 < 2 ^ 62 := by decide
        omega
      refine hq_laysReach hm hm60 hM (show i < m by omega) hs w2 s62 (by omega) (fun v hv => ?_) (fun bl => ?_)
      · obtain ⟨c1, c2⟩ := hq_ci_step (v := v) hm60 (show i < m by omega) hU w2 w3 hv
        have nv : v ≠ hq_U := by
          intro q
          rw [q, hq_Uabs] at hv
          have : (2 : Nat) ^ 62 < 9223372036854775807 := by decide
          omega
        refine nx _ c1 (fun k hk q => ?_) (fun h => ?_)
        · by_cases x : k = i
          · exact absurd ((show vp_updL W i v k = v from if_pos x).symm.trans q) nv
          · exact hsub k hk ((show vp_updL W i v k = W k from if_neg x).symm.trans q)
        · by_cases x : gs = i
          · exact fun q => nv ((show vp_updL W i v gs = v from if_pos x).symm.trans q)
          · exact fun q => hgs (by omega) ((show vp_updL W i v gs = W gs from if_neg x).symm.trans q)
      · refine same (Or.inl (fun q => ?_))
        obtain ⟨g, b1, b2, b3, b4, b5, b6, p, b7, b8, b9⟩ := bl
        subst q
        exact g3 g b1 b2 (hsub g b1 b3) b4 b5 (b6.trans ed) ⟨p, b7, by omega, b8, b9.2.2⟩
    · exact no i (by omega) rfl (by rw [q]; exact g2.2.1)
theorem hq_thr_loop {t : XT} {m s e f0 : Nat} {lj : Nat → Int64} {Q : Int64 → XT → Prop} (hm : t.1 3 = nI m) (hm60 : m ≤ 60) (hM : hm_match t m) (hA : hm_acyc t m) (hs : s < m) (he : e < m) (hf : f0 < m) (gf : hm_gone t f0 = 0) (lo : hm_low t f0) (ed : hm_dim t f0 = hm_dim t e) (hQ : ∀ r W, Q r (sB t 2 W)) :
    ∀ (a K : Nat) (W : Nat → Int64) (li : Nat → Int32), 400 * a + 400 ≤ K → li 1 = nI s → li 2 = nI e → li 6 = nI f0 → hq_ci m W → hq_unt m W < a → wpX12_through K 6 (sB t 2 W) li lj Q := by
  intro a
  induction a with
  | zero => intro K W li _ _ _ _ _ h; omega
  | succ a ih =>
    intro K W li hK e1 e2 e6 hW hu
    obtain ⟨K, rfl⟩ : ∃ K', K = K' + 1 := ⟨K - 1, by omega⟩
    have cf : (nI f0).toNatClampNeg = f0 := nI_clamp (by omega)
    show wbX12_through_6 (wpX12_through K) K (sB t 2 W) li lj Q
    unfold wbX12_through_6
    rw [e6]
    refine ⟨vp_in_nI (by omega) (by decide), fun v21 e21 v22 e22 => ⟨fun _ => ⟨vp_in_nI (by omega) (by decide), fun _ _ => ⟨vp_in_nI (by omega) (by decide), fun _ _ v26 _ => hQ v26 W⟩⟩, fun y => ?_⟩⟩
    have e21 : v21 = W f0 := e21.trans (congrArg W cf)
    have hU : W f0 = hq_U := by
      rw [e22, e21] at y
      exact (hs_cmp0 _ _).mp y
    obtain ⟨gs, g1, g2, g3⟩ := hq_next hA hf hU gf lo ed
    obtain ⟨L, hL⟩ : ∃ L, L = 400 * a + 400 := ⟨_, rfl⟩
    refine hq_thr_scan (f0 := f0) hm hm60 hM hs he g1 g2 g3 L (by omega) (fun K' W' li' h1 b1 b2 b6 c1 c2 c3 => ih K' W' li' (by omega) b1 b2 b6 c1 ?_) m 0 K W _ (by omega) (by omega) e1 e2 e6 rfl hW (fun _ _ q => q) (fun h => absurd h (by omega))
    have u := hq_unt_sub_lt c2 g1 g2.1 c3
    omega
theorem hq_thr_init {t : XT} {m s e f0 : Nat} {lj : Nat → Int64} {Q : Int64 → XT → Prop} (hm : t.1 3 = nI m) (hm60 : m ≤ 60) (L : Nat)
    (cont : ∀ (K' : Nat) (W : Nat → Int64) (li' : Nat → Int32), L ≤ K' → li' 1 = nI s → li' 2 = nI e → li' 6 = nI f0 → (∀ k, k < m → W k = hq_U) → wpX12_through K' 6 (sB t 2 W) li' lj Q) :
    ∀ (d i K : Nat) (W : Nat → Int64) (li : Nat → Int32), i + d = m → d + L + 1 ≤ K → li 1 = nI s → li 2 = nI e → li 6 = nI f0 → li 7 = nI i → (∀ k, k < i → W k = hq_U) → wpX12_through K 5 (sB t 2 W) li lj Q := by
  intro d
  induction d with
  | zero =>
    intro i K W li hd hK e1 e2 e6 e7 hW
    obtain ⟨K, rfl⟩ : ∃ K', K = K' + 1 := ⟨K - 1, by omega⟩
    obtain rfl : i = m := by omega
    show wbX12_through_5 (wpX12_through K) K (sB t 2 W) li lj Q
    refine ⟨fun _ => cont K W li (by omega) e1 e2 e6 hW, fun x => absurd ?_ x⟩
    show t.1 3 ≤ li 7
    rw [hm, e7]; exact nI_le (by omega) (by omega)
  | succ d ih =>
    intro i K W li hd hK e1 e2 e6 e7 hW
    obtain ⟨K, rfl⟩ : ∃ K', K = K' + 1 := ⟨K - 1, by omega⟩
    have ci : (nI i).toNatClampNeg = i := nI_clamp (by omega)
    show wbX12_through_5 (wpX12_through K) K (sB t 2 W) li lj Q
    unfold wbX12_through_5
    rw [e7]
    refine ⟨fun x => absurd (show t.1 3 ≤ nI i from x) (by rw [hm]; exact nI_ge (by omega) (by omega)), fun _ => ⟨vp_in_nI (by omega) (by decide), fun t19 e19 v20 e20 => ?_⟩⟩
    rw [ci, hs_sBB] at e19
    have e19 : t19 = sB t 2 (vp_updL W i hq_U) := e19
    rw [e19]
    refine ih (i + 1) K _ _ (by omega) (by omega) e1 e2 e6 (e20.trans (hs_inc i)) (fun k hk => ?_)
    by_cases x : k = i
    · exact if_pos x
    · exact (show vp_updL W i hq_U k = W k from if_neg x).trans (hW k (by omega))
theorem hq_through {t : XT} {m n K : Nat} {a b c : Int32} {Q : Int64 → XT → Prop} (hI : hq_inv t m n) (hK : 40000 ≤ K) (hQ : ∀ r t', hq_key t' = hq_key t → hq_inv t' m n → Q r t') : wqX12_through K t a b c Q := by
  obtain ⟨K, rfl⟩ : ∃ K', K = K' + 1 := ⟨K - 1, by omega⟩
  have hm := hI.1
  have hm60 := hI.2.1
  have hM := hI.2.2.2.1
  have hA := hI.2.2.2.2.1
  have hT := hI.2.2.2.2.2.2.2.2
  show wbX12_through_0 (wpX12_through K) K t (uI (uI (uI (fun _ => 0) 1 a) 2 b) 3 c) (fun _ => 0) Q
  obtain ⟨K, rfl⟩ : ∃ K', K = K' + 1 := ⟨K - 1, by omega⟩
  have out : wpX12_through (K + 1) 1 t (uI (uI (uI (fun _ => 0) 1 a) 2 b) 3 c) (fun _ => 0) Q := hQ _ t rfl hI
  refine hq_areEnds (a := a) (b := b) hm hm60 (by omega) (fun s e hs he ea eb _ _ _ => ⟨fun x => absurd x (by decide), fun _ => ?_⟩) ⟨fun _ => out, fun x => absurd rfl x⟩
  refine hm_isThere (a := c) hm hm60 (by omega) (fun k hk ec _ => ⟨fun _ => ?_, fun x => absurd x (by decide)⟩) (fun _ => ⟨fun x => absurd rfl x, fun _ => out⟩)
  subst ea
  subst eb
  subst ec
  refine hq_waysFrom hm hm60 hM hs he (by omega) (fun r W G => ?_)
  have hI1 : hq_inv (hq_w t W G) m n := hq_frame rfl rfl rfl rfl rfl rfl hI
  have two : ∀ (li : Nat → Int32) (lj : Nat → Int64), wpX12_through (K + 1) 2 (hq_w t W G) li lj Q := fun li lj => hQ (lj 4) _ rfl hI1
  have four : ∀ (K2 : Nat) (li : Nat → Int32) (lj : Nat → Int64), 1 ≤ K2 → wpX12_through K2 4 (hq_w t W G) li lj Q := by
    intro K2 li lj h
    obtain ⟨K2, rfl⟩ : ∃ K', K2 = K' + 1 := ⟨K2 - 1, by omega⟩
    exact hQ 0 _ rfl hI1
  have three : ∀ (li : Nat → Int32) (lj : Nat → Int64), li 1 = nI s → li 2 = nI e → (li 100 = -1 ∨ ∃ f0, f0 < m ∧ li 100 = nI f0) → wpX12_through (K + 1) 3 (hq_w t W G) li lj Q := by
    intro li lj e1 e2 h
    show wbX12_through_3 (wpX12_through K) K (hq_w t W G) li lj Q
    rcases h with h | ⟨f0, hf, h⟩
    · exact ⟨fun _ => four _ _ _ (by omega), fun x => absurd h x⟩
    · unfold wbX12_through_3
      rw [e2, h]
      refine ⟨fun x => absurd x (hs_nI_neg (by omega)), fun _ => ?_⟩
      refine hm_dimOf (t := hq_w t W G) (by omega) (by omega) (hm_dimOf (t := hq_w t W G) (by omega) (by omega) ⟨fun _ => four _ _ _ (by omega), fun ed => ?_⟩)
      refine hm_isLower (t := hq_w t W G) (by omega) (by omega) (fun lo => ⟨fun _ => ?_, fun x => absurd x (by decide)⟩) (fun _ => ⟨fun x => absurd rfl x, fun _ => four _ _ _ (by omega)⟩)
      obtain ⟨L, hL⟩ : ∃ L, L = 25000 := ⟨_, rfl⟩
      have g := hq_thr_init (t := hq_w t W G) (lj := lj) (Q := Q) (s := s) (e := e) (f0 := f0) hm hm60 L (fun K' V li' h1 b1 b2 b6 hV => ?_) m 0 K ((hq_w t W G).2.2.2 2) (uI (uI li 6 (nI f0)) 7 0) (by omega) (by omega) e1 e2 rfl rfl (fun k hk => absurd hk (by omega))
      · rw [hq_sB0] at g
        exact g
      · have u := hq_unt_le (W := V) m
        have gf : hm_gone t f0 = 0 := hT.1 f0 hf lo.1
        refine hq_thr_loop (t := hq_w t W G) hm hm60 hM hA hs he hf gf lo ed (fun r' W' => hQ r' _ rfl (hq_frame (t := t) rfl rfl rfl rfl rfl rfl hI)) 61 K' V li' (by omega) b1 b2 b6 ⟨fun _ => 0, fun k hk => Or.inl (hV k hk), ?_⟩ (by omega)
        rw [hq_sum0]
        have p : (2 : Nat) ^ 0 ≤ 2 ^ (61 - hq_unt m V) := Nat.pow_le_pow_right (by omega) (Nat.zero_le _)
        exact p
  refine ⟨fun _ => two _ _, fun _ => ⟨fun _ => ?_, fun _ => two _ _⟩⟩
  refine hm_dimOf (t := hq_w t W G) (by omega) (by omega) (hm_dimOf (t := hq_w t W G) (by omega) (by omega) ⟨fun _ => ⟨vp_in_nI (n := k) (by omega) (by decide), fun v11 e11 => ?_⟩, fun _ => three _ _ rfl rfl (Or.inr ⟨k, hk, rfl⟩)⟩)
  have e11 : v11 = hm_par t k := e11.trans (congrArg (t.2.2.1 4) (nI_clamp (by omega)))
  refine three _ _ rfl rfl ?_
  rcases hM k hk with q | ⟨p, hp, q, _⟩
  · exact Or.inl (e11.trans q)
  · exact Or.inr ⟨p, hp, e11.trans q⟩
