/-! ===== reference, pure: laysWays and waysFrom, exactly: each face in a PAIR has the sum of the other faces of its partner ===== -/
noncomputable def hq_sel (p : Prop) (a : Nat) : Nat := @ite Nat p (Classical.propDecidable p) a 0
theorem hq_sel1 {p : Prop} {a : Nat} (h : p) : hq_sel p a = a := @if_pos p (Classical.propDecidable p) h Nat a 0
theorem hq_sel0 {p : Prop} {a : Nat} (h : ¬ p) : hq_sel p a = 0 := @if_neg p (Classical.propDecidable p) h Nat a 0
theorem hq_sel_le (p : Prop) (a : Nat) : hq_sel p a ≤ a := (Classical.em p).elim (fun h => by rw [hq_sel1 h]; exact Nat.le_refl _) (fun h => by rw [hq_sel0 h]; exact Nat.zero_le _)
noncomputable def hq_tot (t : XT) (m f s : Nat) (A : Nat → Nat) : Nat := hm_sum (fun g => hq_sel (g ≠ f ∧ hm_faceT t g s) (A g)) m
theorem hq_sum_eq {g g' : Nat → Nat} (n : Nat) (h : ∀ j, j < n → g j = g' j) : hm_sum g n = hm_sum g' n :=
  Nat.le_antisymm (hm_sum_le n (fun j hj => by rw [h j hj]; exact Nat.le_refl _)) (hm_sum_le n (fun j hj => by rw [h j hj]; exact Nat.le_refl _))
def hq_goes (t : XT) (e k : Nat) : Prop := hm_gone t k = 0 ∧ k ≠ e ∧ hm_low t k ∧ hm_dim t k = hm_dim t e
def hq_ex (t : XT) (m e : Nat) (W : Nat → Int64) (A : Nat → Nat) : Prop :=
  (∀ k, k < m → W k = hq_U ∨ W k = lN (A k)) ∧ hm_sum A m ≤ 2 ^ (60 - hq_unt m W) ∧ (∀ k, k < m → W k = hq_U → hq_goes t e k) ∧
  (∀ k p, k < m → p < m → W k ≠ hq_U → hq_goes t e k → hm_par t k = nI p → A k = hq_tot t m k p A ∧ ∀ g, g < m → g ≠ k → hm_faceT t g p → W g ≠ hq_U) ∧
  (∀ k, k < m → ¬ hq_goes t e k → A k = if k = e then 1 else 0)
def hq_told2 (t : XT) (e : Nat) (k : Nat) (v : Int64) : Prop := (v = hq_U ∧ hq_goes t e k) ∨ (v = lN (if k = e then 1 else 0) ∧ ¬ hq_goes t e k)
theorem hq_tot_le {t : XT} {m f s : Nat} {A : Nat → Nat} : hq_tot t m f s A ≤ hm_sum A m := hm_sum_le m (fun j _ => hq_sel_le _ _)
theorem hq_tot_upd {t : XT} {m f k s B : Nat} {A : Nat → Nat} (h : ¬ (f ≠ k ∧ hm_faceT t f s)) : hq_tot t m k s (fun j => if j = f then B else A j) = hq_tot t m k s A := by
  refine hq_sum_eq m (fun j _ => ?_)
  show hq_sel (j ≠ k ∧ hm_faceT t j s) (if j = f then B else A j) = hq_sel (j ≠ k ∧ hm_faceT t j s) (A j)
  by_cases x : j = f
  · rw [hq_sel0 (by rw [x]; exact h), hq_sel0 (by rw [x]; exact h)]
  · rw [if_neg x]
theorem hq_ex_step {t : XT} {m e f p : Nat} {W : Nat → Int64} {A : Nat → Nat} (hm60 : m ≤ 60) (hf : f < m) (hU : W f = hq_U) (hp : p < m) (ep : hm_par t f = nI p) (h : hq_ex t m e W A) (hg : ∀ g, g < m → g ≠ f → hm_faceT t g p → W g ≠ hq_U) :
    hq_ex t m e (vp_updL W f (lN (hq_tot t m f p A))) (fun j => if j = f then hq_tot t m f p A else A j) ∧ hq_unt m (vp_updL W f (lN (hq_tot t m f p A))) < hq_unt m W := by
  obtain ⟨h1, h2, h3, h4, h5⟩ := h
  have hB : hq_tot t m f p A ≤ hm_sum A m := hq_tot_le
  obtain ⟨B, eB⟩ : ∃ B, B = hq_tot t m f p A := ⟨_, rfl⟩
  have tf : hq_tot t m f p (fun j => if j = f then B else A j) = B := by rw [eB]; exact hq_tot_upd (fun z => z.1 rfl)
  rw [← eB] at hB ⊢
  have u60 := hq_unt_le (W := W) m
  have le60 : (2 : Nat) ^ (60 - hq_unt m W) ≤ 2 ^ 60 := Nat.pow_le_pow_right (by omega) (by omega)
  have b63 : B < 2 ^ 63 := by
    have : (2 : Nat) ^ 60 < 2 ^ 63 := by decide
    omega
  have nU := hq_U_ne b63
  have lt := hq_unt_lt (v := lN B) hf hU nU
  have at1 : ∀ k, k = f → vp_updL W f (lN B) k = lN B := fun k x => if_pos x
  have at0 : ∀ k, k ≠ f → vp_updL W f (lN B) k = W k := fun k x => if_neg x
  have gf := h3 f hf hU
  refine ⟨⟨fun k hk => ?_, ?_, fun k hk q => ?_, fun k p' hk hp' nu go ep' => ?_, fun k hk ng => ?_⟩, lt⟩
  · by_cases x : k = f
    · exact Or.inr ((at1 k x).trans (congrArg lN (if_pos x).symm))
    · rw [at0 k x]
      show W k = hq_U ∨ W k = lN (if k = f then B else A k)
      rw [if_neg x]
      exact h1 k hk
  · have s := hq_sum_upd (A := A) (f := f) (B := B) m
    have p : (2 : Nat) ^ (60 - hq_unt m W + 1) ≤ 2 ^ (60 - hq_unt m (vp_updL W f (lN B))) := Nat.pow_le_pow_right (by omega) (by omega)
    have q : (2 : Nat) ^ (60 - hq_unt m W + 1) = 2 * 2 ^ (60 - hq_unt m W) := by rw [Nat.pow_succ]; omega
    omega
  · by_cases x : k = f
    · exact absurd ((at1 k x).symm.trans q) nU
    · exact h3 k hk ((at0 k x).symm.trans q)
  · by_cases x : k = f
    · subst x
      obtain rfl := (nI_eq (by omega) (by omega)).mp (ep.symm.trans ep')
      refine ⟨?_, fun g a b c => ?_⟩
      · rw [tf]; exact if_pos rfl
      · rw [at0 g b]; exact hg g a b c
    · rw [at0 k x] at nu
      obtain ⟨z1, z2⟩ := h4 k p' hk hp' nu go ep'
      refine ⟨?_, fun g a b c => ?_⟩
      · rw [hq_tot_upd (fun z => z2 f hf z.1 z.2 hU)]
        exact (if_neg x).trans z1
      · by_cases y : g = f
        · rw [at1 g y]; exact nU
        · rw [at0 g y]; exact z2 g a b c
  · have x : k ≠ f := fun q => ng (by rw [q]; exact gf)
    exact (if_neg x).trans (h5 k hk ng)
def hq_blk (t : XT) (m : Nat) (W : Nat → Int64) (f : Nat) : Prop := ∃ p g, p < m ∧ hm_par t f = nI p ∧ g < m ∧ g ≠ f ∧ hm_faceT t g p ∧ W g = hq_U
theorem hq_way2_go {t : XT} {m f p : Nat} {W G : Nat → Int64} {A : Nat → Nat} {Q : Int32 → XT → Prop} (hm : t.1 3 = nI m) (hm60 : m ≤ 60) (hf : f < m) (hp : p < m) (h2 : ∀ k, k < m → W k = hq_U ∨ W k = lN (A k))
    (h1 : (∀ g, g < m → g ≠ f → hm_faceT t g p → W g ≠ hq_U) → ∀ G', Q 1 (hq_w t (vp_updL W f (lN (hq_tot t m f p A))) G')) (h0 : (∃ g, g < m ∧ g ≠ f ∧ hm_faceT t g p ∧ W g = hq_U) → Q 0 (hq_w t W G)) :
    ∀ (d g K : Nat) (li : Nat → Int32) (lj : Nat → Int64), g + d = m → 2 * d + 10 ≤ K → (∀ g', g' < g → g' ≠ f → hm_faceT t g' p → W g' ≠ hq_U) → li 1 = nI f → li 2 = nI p → li 7 = nI g → lj 3 = lN (hq_tot t g f p A) → wpX12_laysWay K 1 (hq_w t W G) li lj Q := by
  have cf : (nI f).toNatClampNeg = f := nI_clamp (by omega)
  intro d
  induction d with
  | zero =>
    intro g K li lj hd hK hT e1 e2 e7 e3
    obtain ⟨K, rfl⟩ : ∃ K', K = K' + 1 := ⟨K - 1, by omega⟩
    obtain rfl : g = m := by omega
    show wbX12_laysWay_1 (wpX12_laysWay K) K (hq_w t W G) li lj Q
    unfold wbX12_laysWay_1
    rw [e1, e2, e7]
    refine ⟨fun _ => ⟨vp_in_nI (by omega) (by decide), fun t3 e => ?_⟩, fun x => absurd (show t.1 3 ≤ nI g by rw [hm]; exact nI_le (by omega) (by omega)) x⟩
    have e : t3 = hq_w t (vp_updL W f (lN (hq_tot t g f p A))) G := by
      rw [e, hq_w0, cf, e3]; rfl
    rw [e]
    refine hm_signOf (by omega) (by omega) (by omega) (fun v5 _ v6 _ v7 _ => ⟨vp_in_nI (by omega) (by decide), fun t8 e8 => ?_⟩)
    rw [e8, hq_w1]
    exact h1 hT _
  | succ d ih =>
    intro g K li lj hd hK hT e1 e2 e7 e3
    obtain ⟨K, rfl⟩ : ∃ K', K = K' + 2 := ⟨K - 2, by omega⟩
    have cg : (nI g).toNatClampNeg = g := nI_clamp (by omega)
    have sg : hq_tot t (g + 1) f p A = hq_tot t g f p A + hq_sel (g ≠ f ∧ hm_faceT t g p) (A g) := rfl
    have nx : ∀ (lj' : Nat → Int64), (g ≠ f → hm_faceT t g p → W g ≠ hq_U) → lj' 3 = lN (hq_tot t (g + 1) f p A) → wpX12_laysWay (K + 1) 2 (hq_w t W G) li lj' Q := by
      intro lj' hT' a3
      show wbX12_laysWay_2 (wpX12_laysWay K) K (hq_w t W G) li lj' Q
      intro v e
      refine ih (g + 1) K (uI li 7 v) lj' (by omega) (by omega) (fun g' a b c => ?_) e1 e2 (by show v = _; rw [e, e7]; exact hs_inc g) a3
      by_cases x : g' = g
      · rw [x] at b c ⊢; exact hT' b c
      · exact hT g' (by omega) b c
    have same : ¬ (g ≠ f ∧ hm_faceT t g p) → wpX12_laysWay (K + 1) 2 (hq_w t W G) li lj Q := by
      intro z
      refine nx lj (fun a b => absurd ⟨a, b⟩ z) ?_
      rw [sg, hq_sel0 z, e3]; rfl
    show wbX12_laysWay_1 (wpX12_laysWay (K + 1)) (K + 1) (hq_w t W G) li lj Q
    unfold wbX12_laysWay_1
    rw [e1, e2, e7]
    refine ⟨fun x => absurd (show t.1 3 ≤ nI g from x) (by rw [hm]; exact nI_ge (by omega) (by omega)), fun _ => ⟨fun x => same (fun z => z.1 ((nI_eq (by omega) (by omega)).mp x)), fun x => ?_⟩⟩
    have ne : g ≠ f := fun q => x (congrArg nI q)
    refine hm_isFaceThere (t := hq_w t W G) (by omega) (by omega) (by omega) (fun fc => ?_) (fun nf => ⟨fun x => absurd rfl x, fun _ => same (fun z => nf z.2)⟩)
    refine ⟨fun _ => ⟨vp_in_nI (by omega) (by decide), fun v12 e12 v13 e13 => ⟨fun ne2 => ?_, fun y => h0 ?_⟩⟩, fun x => absurd x (by decide)⟩
    · have e12 : v12 = W g := e12.trans (congrArg W cg)
      refine ⟨vp_in_nI (by omega) (by decide), fun v15 e15 v16 e16 => ?_⟩
      have e15 : v15 = W g := e15.trans (congrArg W cg)
      refine hm_signOf (by omega) (by omega) (by omega) (fun v18 _ => ⟨vp_in_nI (by omega) (by decide), fun v19 _ v20 _ v21 _ => ?_⟩)
      have nu : W g ≠ hq_U := fun z => ne2 (by rw [e13, e12, z]; exact (hs_cmp0 _ _).mpr rfl)
      have told : W g = lN (A g) := (h2 g (by omega)).elim (fun z => absurd z nu) id
      refine nx _ (fun _ _ => nu) ?_
      show v16 = lN (hq_tot t (g + 1) f p A)
      rw [e16, e15, e3, told, sg, hq_sel1 ⟨ne, fc⟩]; exact lN_add _ _
    · have e12 : v12 = W g := e12.trans (congrArg W cg)
      rw [e13, e12] at y
      exact ⟨g, by omega, ne, fc, (hs_cmp0 _ _).mp y⟩
theorem hq_laysWay2 {t : XT} {m f p K : Nat} {W G : Nat → Int64} {A : Nat → Nat} {Q : Int32 → XT → Prop} (hm : t.1 3 = nI m) (hm60 : m ≤ 60) (hf : f < m) (hp : p < m) (ep : hm_par t f = nI p) (h2 : ∀ k, k < m → W k = hq_U ∨ W k = lN (A k)) (hK : 200 ≤ K)
    (h1 : (∀ g, g < m → g ≠ f → hm_faceT t g p → W g ≠ hq_U) → ∀ G', Q 1 (hq_w t (vp_updL W f (lN (hq_tot t m f p A))) G')) (h0 : (∃ g, g < m ∧ g ≠ f ∧ hm_faceT t g p ∧ W g = hq_U) → Q 0 (hq_w t W G)) : wqX12_laysWay K (hq_w t W G) (nI f) Q := by
  obtain ⟨K, rfl⟩ : ∃ K', K = K' + 1 := ⟨K - 1, by omega⟩
  show wbX12_laysWay_0 (wpX12_laysWay K) K (hq_w t W G) (uI (fun _ => 0) 1 (nI f)) (fun _ => 0) Q
  refine ⟨vp_in_nI (n := f) (by omega) (by decide), fun v1 e1 => ?_⟩
  have e1 : v1 = nI p := e1.trans ((congrArg (t.2.2.1 4) (nI_clamp (by omega))).trans ep)
  exact hq_way2_go hm hm60 hf hp h2 h1 h0 m 0 K _ _ (by omega) (by omega) (fun g hg => absurd hg (by omega)) rfl e1 rfl rfl
def hq_XJ (t : XT) (m e u0 i : Nat) (W : Nat → Int64) (v : Int32) : Prop := (∃ A, hq_ex t m e W A) ∧ hq_unt m W ≤ u0 ∧ ((v = 0 ∧ ∀ f, f < i → W f = hq_U → hq_blk t m W f) ∨ (¬ v = 0 ∧ hq_unt m W < u0))
theorem hq_ways2_scan {t : XT} {m e u0 : Nat} {lj : Nat → Int64} {Q : XT → Prop} (hm : t.1 3 = nI m) (hm60 : m ≤ 60) (hM : hm_match t m) (L : Nat) (hL : 250 ≤ L)
    (cont : ∀ (K' : Nat) (W G : Nat → Int64) (li' : Nat → Int32), L ≤ K' → hq_XJ t m e u0 m W (li' 2) → wpX12_laysWays K' 7 (hq_w t W G) li' lj Q) :
    ∀ (d f K : Nat) (W G : Nat → Int64) (li : Nat → Int32), f + d = m → 4 * d + L + 1 ≤ K → hq_XJ t m e u0 f W (li 2) → li 3 = nI f → wpX12_laysWays K 8 (hq_w t W G) li lj Q := by
  intro d
  induction d with
  | zero =>
    intro f K W G li hd hK hJ e3
    obtain ⟨K, rfl⟩ : ∃ K', K = K' + 1 := ⟨K - 1, by omega⟩
    obtain rfl : f = m := by omega
    show wbX12_laysWays_8 (wpX12_laysWays K) K (hq_w t W G) li lj Q
    refine ⟨fun _ => cont K W G li (by omega) hJ, fun x => absurd ?_ x⟩
    show t.1 3 ≤ li 3
    rw [hm, e3]; exact nI_le (by omega) (by omega)
  | succ d ih =>
    intro f K W G li hd hK hJ e3
    obtain ⟨K, rfl⟩ : ∃ K', K = K' + 4 := ⟨K - 4, by omega⟩
    have cf : (nI f).toNatClampNeg = f := nI_clamp (by omega)
    have nx : ∀ (K' : Nat) (W' G' : Nat → Int64) (li' : Nat → Int32), K + 1 ≤ K' → hq_XJ t m e u0 (f + 1) W' (li' 2) → li' 3 = nI f → wpX12_laysWays K' 11 (hq_w t W' G') li' lj Q := by
      intro K' W' G' li' hK' hJ' a3
      obtain ⟨K', rfl⟩ : ∃ K'', K' = K'' + 1 := ⟨K' - 1, by omega⟩
      show wbX12_laysWays_11 (wpX12_laysWays K') K' (hq_w t W' G') li' lj Q
      intro v e
      exact ih (f + 1) K' W' G' (uI li' 3 v) (by omega) (by omega) hJ' (by show v = _; rw [e, a3]; exact hs_inc f)
    have ten : ∀ (K' : Nat) (W' G' : Nat → Int64) (li' : Nat → Int32), K + 2 ≤ K' → hq_XJ t m e u0 (f + 1) W' (li' 100) → li' 3 = nI f → wpX12_laysWays K' 10 (hq_w t W' G') li' lj Q := by
      intro K' W' G' li' hK' hJ' a3
      obtain ⟨K', rfl⟩ : ∃ K'', K' = K'' + 1 := ⟨K' - 1, by omega⟩
      show wbX12_laysWays_10 (wpX12_laysWays K') K' (hq_w t W' G') li' lj Q
      exact nx K' W' G' _ (by omega) hJ' a3
    have nine : ∀ (W' G' : Nat → Int64), hq_XJ t m e u0 (f + 1) W' 1 → wpX12_laysWays (K + 3) 9 (hq_w t W' G') li lj Q := by
      intro W' G' hJ'
      show wbX12_laysWays_9 (wpX12_laysWays (K + 2)) (K + 2) (hq_w t W' G') li lj Q
      exact ten (K + 2) W' G' _ (by omega) hJ' e3
    obtain ⟨⟨A, hx⟩, j2, j3⟩ := hJ
    have keep : ∀ v : Int32, v = li 2 → (W f = hq_U → hq_blk t m W f) → hq_XJ t m e u0 (f + 1) W v := by
      intro v ev hb
      refine ⟨⟨A, hx⟩, j2, ?_⟩
      rw [ev]
      rcases j3 with ⟨a, b⟩ | ⟨a, b⟩
      · refine Or.inl ⟨a, fun f' hf' q => ?_⟩
        by_cases x : f' = f
        · rw [x] at q ⊢; exact hb q
        · exact b f' (by omega) q
      · exact Or.inr ⟨a, b⟩
    show wbX12_laysWays_8 (wpX12_laysWays (K + 3)) (K + 3) (hq_w t W G) li lj Q
    unfold wbX12_laysWays_8
    rw [e3]
    refine ⟨fun x => absurd (show t.1 3 ≤ nI f from x) (by rw [hm]; exact nI_ge (by omega) (by omega)), fun _ => ⟨vp_in_nI (by omega) (by decide), fun v22 e22 v23 e23 => ?_⟩⟩
    have e22 : v22 = W f := e22.trans (congrArg W cf)
    rw [e22] at e23
    refine ⟨fun y => nx _ W G li (by omega) (keep _ rfl (fun q => absurd (by rw [e23, q]; exact (hs_cmp0 _ _).mpr rfl) y)) e3, fun z => ?_⟩
    have hU : W f = hq_U := by
      rw [e23] at z
      exact (hs_cmp0 _ _).mp z
    obtain ⟨p, hp, ep⟩ := hm_match_pars hM f (by omega) (hx.2.2.1 f (by omega) hU).2.2.1
    refine hq_laysWay2 hm hm60 (show f < m by omega) hp ep hx.1 (by omega) (fun hg G' => ?_) (fun bl => ?_)
    · obtain ⟨g1, g2⟩ := hq_ex_step hm60 (show f < m by omega) hU hp ep hx hg
      exact ⟨fun _ => nine _ _ ⟨⟨_, g1⟩, by omega, Or.inr ⟨by decide, by omega⟩⟩, fun x => absurd x (by decide)⟩
    · obtain ⟨g, b1, b2, b3, b4⟩ := bl
      have kb : hq_blk t m W f := ⟨p, g, hp, ep, b1, b2, b3, b4⟩
      refine ⟨fun x => absurd rfl x, fun _ => ⟨fun q => ten _ W G (uI li 100 0) (by omega) (keep 0 q.symm (fun _ => kb)) e3, fun ne => nine W G ?_⟩⟩
      rcases j3 with ⟨y, _⟩ | ⟨_, y⟩
      · exact absurd y ne
      · exact ⟨⟨A, hx⟩, j2, Or.inr ⟨by decide, y⟩⟩
/-- all is told -/
def hq_full (t : XT) (m e : Nat) (W : Nat → Int64) (A : Nat → Nat) : Prop :=
  (∀ k, k < m → W k = lN (A k)) ∧ hm_sum A m ≤ 2 ^ 60 ∧ (∀ k p, k < m → p < m → hq_goes t e k → hm_par t k = nI p → A k = hq_tot t m k p A) ∧ (∀ k, k < m → ¬ hq_goes t e k → A k = if k = e then 1 else 0)
theorem hq_done {t : XT} {m e : Nat} {W : Nat → Int64} {A : Nat → Nat} (hm60 : m ≤ 60) (hA : hm_acyc t m) (hx : hq_ex t m e W A) (hb : ∀ f, f < m → W f = hq_U → hq_blk t m W f) : hq_full t m e W A := by
  have nu : ∀ k, k < m → W k ≠ hq_U := by
    intro k hk q
    obtain ⟨δ, d1, d2⟩ := hA
    obtain ⟨g, g1, g2, g3⟩ := hq_max (m := m) (S := fun g => W g = hq_U) (δ := fun g => 59 - δ g) (fun g hg hs => by show 59 - δ g < 60; omega) 60 k hk q (by omega)
    obtain ⟨p, o, hp, ep, o1, o2, o3, o4⟩ := hb g g1 g2
    have lg := (hx.2.2.1 g g1 g2).2.2.1
    have lo := (hx.2.2.1 o o1 o4).2.2.1
    have u := d2 g o g1 o1 lg lo o2 ⟨p, by omega, ep, o3.2.2⟩
    have v : 59 - δ o ≤ 59 - δ g := g3 o o1 o4
    have w := d1 g g1 lg
    omega
  refine ⟨fun k hk => (hx.1 k hk).elim (fun z => absurd z (nu k hk)) id, Nat.le_trans hx.2.1 (Nat.pow_le_pow_right (by omega) (by omega)), fun k p hk hp go ep => (hx.2.2.2.1 k p hk hp (nu k hk) go ep).1, hx.2.2.2.2⟩
theorem hq_ways2_loop {t : XT} {m e : Nat} {lj : Nat → Int64} {Q : XT → Prop} (hm : t.1 3 = nI m) (hm60 : m ≤ 60) (hM : hm_match t m) (hA : hm_acyc t m) (hQ : ∀ W G A, hq_full t m e W A → Q (hq_w t W G)) :
    ∀ (a K : Nat) (W G : Nat → Int64) (li : Nat → Int32), 400 * a + 400 ≤ K → (∃ A, hq_ex t m e W A) → (li 2 = 0 → ∀ f, f < m → W f = hq_U → hq_blk t m W f) → (li 2 = 0 ∨ hq_unt m W < a) → wpX12_laysWays K 7 (hq_w t W G) li lj Q := by
  intro a
  induction a with
  | zero =>
    intro K W G li hK hW hb hv
    obtain ⟨K, rfl⟩ : ∃ K', K = K' + 1 := ⟨K - 1, by omega⟩
    obtain ⟨A, hx⟩ := hW
    show wbX12_laysWays_7 (wpX12_laysWays K) K (hq_w t W G) li lj Q
    refine ⟨fun z => hQ W G A (hq_done hm60 hA hx (hb z)), fun x => ?_⟩
    rcases hv with y | y
    · exact absurd y x
    · omega
  | succ a ih =>
    intro K W G li hK hW hb hv
    obtain ⟨K, rfl⟩ : ∃ K', K = K' + 1 := ⟨K - 1, by omega⟩
    obtain ⟨A, hx⟩ := hW
    show wbX12_laysWays_7 (wpX12_laysWays K) K (hq_w t W G) li lj Q
    refine ⟨fun z => hQ W G A (hq_done hm60 hA hx (hb z)), fun x => ?_⟩
    have lt : hq_unt m W < a + 1 := by
      rcases hv with y | y
      · exact absurd y x
      · exact y
    obtain ⟨L, hL⟩ : ∃ L, L = 400 * a + 400 := ⟨_, rfl⟩
    refine hq_ways2_scan (e := e) (u0 := hq_unt m W) hm hm60 hM L (by omega) (fun K' W' G' li' h1 h2 => ih K' W' G' li' (by omega) h2.1 (fun z => ?_) ?_) m 0 K W G _ (by omega) (by omega) ⟨⟨A, hx⟩, Nat.le_refl _, Or.inl ⟨rfl, fun f hf => absurd hf (by omega)⟩⟩ rfl
    · rcases h2.2.2 with ⟨_, y⟩ | ⟨y, _⟩
      · exact y
      · exact absurd z y
    · rcases h2.2.2 with ⟨y, _⟩ | ⟨_, y⟩
      · exact Or.inl y
      · exact Or.inr (by omega)
theorem hq_ways_init2 {t : XT} {m e : Nat} {Q : XT → Prop} (hm : t.1 3 = nI m) (hm60 : m ≤ 60) (he : e < m) (L : Nat) (hL : 20 ≤ L)
    (cont : ∀ (K' : Nat) (W G : Nat → Int64) (li' : Nat → Int32) (lj' : Nat → Int64), L ≤ K' → li' 2 = 1 → (∃ A, hq_ex t m e W A) → wpX12_laysWays K' 7 (hq_w t W G) li' lj' Q) :
    ∀ (d c K : Nat) (W G : Nat → Int64) (li : Nat → Int32) (lj : Nat → Int64), c + d = m → 6 * d + L + 1 ≤ K → (∀ k, k < c → hq_told2 t e k (W k)) → li 1 = nI e → li 2 = nI c → wpX12_laysWays K 1 (hq_w t W G) li lj Q := by
  intro d
  induction d with
  | zero =>
    intro c K W G li lj hd hK hW e1 e2
    obtain ⟨K, rfl⟩ : ∃ K', K = K' + 1 := ⟨K - 1, by omega⟩
    obtain rfl : c = m := by omega
    show wbX12_laysWays_1 (wpX12_laysWays K) K (hq_w t W G) li lj Q
    refine ⟨fun _ => cont K W G _ lj (by omega) rfl ⟨fun k => if k = e then 1 else 0, fun k hk => ?_, ?_, fun k hk q => ?_, fun k p hk _ nu go _ => ?_, fun k hk _ => rfl⟩, fun x => absurd ?_ x⟩
    · rcases hW k hk with ⟨z, _⟩ | ⟨z, _⟩
      · exact Or.inl z
      · exact Or.inr z
    · have u := hq_sum_upd (A := fun _ => 0) (f := e) (B := 1) c
      rw [hq_sum0] at u
      exact Nat.le_trans u (show (2 : Nat) ^ 0 ≤ _ from Nat.pow_le_pow_right (by omega) (Nat.zero_le _))
    · rcases hW k hk with ⟨_, z⟩ | ⟨z, _⟩
      · exact z
      · rw [z] at q
        refine absurd q (hq_U_ne ?_)
        by_cases y : k = e
        · rw [if_pos y]; decide
        · rw [if_neg y]; decide
    · rcases hW k hk with ⟨z, _⟩ | ⟨_, z⟩
      · exact absurd z nu
      · exact absurd go z
    · show t.1 3 ≤ li 2
      rw [hm, e2]; exact nI_le (by omega) (by omega)
  | succ d ih =>
    intro c K W G li lj hd hK hW e1 e2
    obtain ⟨K, rfl⟩ : ∃ K', K = K' + 6 := ⟨K - 6, by omega⟩
    have cc : (nI c).toNatClampNeg = c := nI_clamp (by omega)
    have six : ∀ (K' : Nat) (W' : Nat → Int64) (li' : Nat → Int32) (lj' : Nat → Int64), K + 1 ≤ K' → (∀ k, k < c + 1 → hq_told2 t e k (W' k)) → li' 1 = nI e → li' 2 = nI c → li' 101 = nI c → wpX12_laysWays K' 6 (hq_w t W' G) li' lj' Q := by
      intro K' W' li' lj' hK' hW' a1 a2 a3
      obtain ⟨K', rfl⟩ : ∃ K'', K' = K'' + 1 := ⟨K' - 1, by omega⟩
      show wbX12_laysWays_6 (wpX12_laysWays K') K' (hq_w t W' G) li' lj' Q
      unfold wbX12_laysWays_6
      rw [a3]
      refine hm_truth (by omega) (fun v17 _ => ⟨vp_in_nI (by omega) (by decide), fun t18 e18 v19 e19 => ?_⟩)
      rw [hq_w1] at e18
      rw [e18]
      exact ih (c + 1) K' W' _ (uI li' 2 v19) lj' (by omega) (by omega) hW' a1 (by show v19 = _; rw [e19, a2]; exact hs_inc c)
    have five : ∀ (K' : Nat) (li' : Nat → Int32) (lj' : Nat → Int64), K + 2 ≤ K' → li' 1 = nI e → li' 2 = nI c → li' 101 = nI c → hq_told2 t e c (lj' 102) → wpX12_laysWays K' 5 (hq_w t W G) li' lj' Q := by
      intro K' li' lj' hK' a1 a2 a3 hv
      obtain ⟨K', rfl⟩ : ∃ K'', K' = K'' + 1 := ⟨K' - 1, by omega⟩
      show wbX12_laysWays_5 (wpX12_laysWays K') K' (hq_w t W G) li' lj' Q
      unfold wbX12_laysWays_5
      rw [a3]
      refine ⟨vp_in_nI (by omega) (by decide), fun t14 e14 => ?_⟩
      have e14 : t14 = hq_w t (vp_updL W c (lj' 102)) G := by
        rw [e14, hq_w0, cc]; rfl
      rw [e14]
      have hW' : ∀ k, k < c + 1 → hq_told2 t e k (vp_updL W c (lj' 102) k) := by
        intro k hk
        by_cases x : k = c
        · rw [show vp_updL W c (lj' 102) k = lj' 102 from if_pos x, x]; exact hv
        · rw [show vp_updL W c (lj' 102) k = W k from if_neg x]; exact hW k (by omega)
      exact ⟨fun _ => six K' _ _ lj' (by omega) hW' a1 a2 a2, fun _ => six K' _ _ lj' (by omega) hW' a1 a2 a2⟩
    have three0 : ∀ (K' : Nat) (li' : Nat → Int32), K + 4 ≤ K' → li' 1 = nI e → li' 2 = nI c → li' 100 = 0 → ¬ hq_goes t e c → wpX12_laysWays K' 3 (hq_w t W G) li' lj Q := by
      intro K' li' hK' a1 a2 a3 ng
      obtain ⟨K', rfl⟩ : ∃ K'', K' = K'' + 2 := ⟨K' - 2, by omega⟩
      show wbX12_laysWays_3 (wpX12_laysWays (K' + 1)) (K' + 1) (hq_w t W G) li' lj Q
      refine ⟨fun _ => ⟨fun ne => ?_, fun eq => ?_⟩, fun x => absurd a3 x⟩
      · have ne : ¬ c = e := fun q => ne (by rw [a1, a2, q])
        show wbX12_laysWays_4 (wpX12_laysWays K') K' (hq_w t W G) _ lj Q
        refine hm_truth (by omega) (fun v13 e13 => ?_)
        have e13 : v13 = lN 0 := by rw [e13]; rfl
        refine five K' _ _ (by omega) a1 a2 a2 ?_
        show hq_told2 t e c v13
        rw [e13]
        refine Or.inr ⟨?_, ng⟩
        rw [if_neg ne]
      · have eq : c = e := by
          have q : li' 2 = li' 1 := eq
          rw [a1, a2] at q
          exact (nI_eq (by omega) (by omega)).mp q
        show wbX12_laysWays_4 (wpX12_laysWays K') K' (hq_w t W G) _ lj Q
        refine hm_truth (by omega) (fun v13 e13 => ?_)
        have e13 : v13 = lN 1 := by rw [e13]; rfl
        refine five K' _ _ (by omega) a1 a2 a2 ?_
        show hq_told2 t e c v13
        rw [e13]
        refine Or.inr ⟨?_, ng⟩
        rw [if_pos eq]
    have three1 : ∀ (K' : Nat) (li' : Nat → Int32), K + 3 ≤ K' → li' 1 = nI e → li' 2 = nI c → li' 100 = 1 → hq_goes t e c → wpX12_laysWays K' 3 (hq_w t W G) li' lj Q := by
      intro K' li' hK' a1 a2 a3 lo
      obtain ⟨K', rfl⟩ : ∃ K'', K' = K'' + 1 := ⟨K' - 1, by omega⟩
      show wbX12_laysWays_3 (wpX12_laysWays K') K' (hq_w t W G) li' lj Q
      refine ⟨fun x => absurd (a3.symm.trans x) (by decide), fun _ => ?_⟩
      exact five K' _ _ (by omega) a1 a2 a2 (Or.inl ⟨rfl, lo⟩)
    have two : ¬ hq_goes t e c → wpX12_laysWays (K + 5) 2 (hq_w t W G) li lj Q := by
      intro ng
      show wbX12_laysWays_2 (wpX12_laysWays (K + 4)) (K + 4) (hq_w t W G) li lj Q
      exact three0 (K + 4) _ (by omega) e1 e2 rfl ng
    show wbX12_laysWays_1 (wpX12_laysWays (K + 5)) (K + 5) (hq_w t W G) li lj Q
    unfold wbX12_laysWays_1
    rw [e1, e2]
    refine ⟨fun x => absurd (show t.1 3 ≤ nI c from x) (by rw [hm]; exact nI_ge (by omega) (by omega)), fun _ => ?_⟩
    refine hm_isThere (t := hq_w t W G) (a := nI c) hm hm60 (by omega) (fun j hj ej gj => ?_) (fun no => ⟨fun _ => two (fun g => no c (by omega) rfl g.1), fun x => absurd rfl x⟩)
    obtain rfl := (nI_eq (by omega) (by omega)).mp ej
    refine ⟨fun x => absurd x (by decide), fun _ => ⟨fun q => two (fun g => g.2.1 ((nI_eq (by omega) (by omega)).mp q)), fun ne => ?_⟩⟩
    have ne : c ≠ e := fun q => ne (congrArg nI q)
    refine hm_isLower (t := hq_w t W G) (by omega) (by omega) (fun lo => ?_) (fun nl => ⟨fun _ => two (fun g => nl g.2.2.1), fun x => absurd rfl x⟩)
    refine ⟨fun x => absurd x (by decide), fun _ => ?_⟩
    refine hm_dimOf (t := hq_w t W G) (by omega) (by omega) ?_
    refine hm_dimOf (t := hq_w t W G) (by omega) (by omega) ?_
    exact ⟨fun nd => two (fun g => nd g.2.2.2), fun ed => three1 (K + 5) _ (by omega) e1 e2 rfl ⟨gj, ne, lo, ed⟩⟩
theorem hq_laysWays2 {t : XT} {m e K : Nat} {Q : XT → Prop} (hm : t.1 3 = nI m) (hm60 : m ≤ 60) (hM : hm_match t m) (hA : hm_acyc t m) (he : e < m) (hK : 30000 ≤ K) (hQ : ∀ W G A, hq_full t m e W A → Q (hq_w t W G)) : wqX12_laysWays K t (nI e) Q := by
  obtain ⟨a, ha⟩ : ∃ a, a = m + 1 := ⟨_, rfl⟩
  obtain ⟨L, hL⟩ : ∃ L, L = 400 * a + 400 := ⟨_, rfl⟩
  obtain ⟨K, rfl⟩ : ∃ K', K = K' + 1 := ⟨K - 1, by omega⟩
  have g := hq_ways_init2 (Q := Q) hm hm60 he L (by omega) (fun K' W G li' lj' h1 b2 h2 => hq_ways2_loop hm hm60 hM hA hQ a K' W G li' (by omega) h2 (fun z => absurd (b2.symm.trans z) (by decide)) (Or.inr (by have := hq_unt_le (W := W) m; omega))) m 0 K (t.2.2.2 0) (t.2.2.2 1) (uI (uI (fun _ => 0) 1 (nI e)) 2 0) (fun _ => 0) (by omega) (by omega) (fun k hk => absurd hk (by omega)) rfl rfl
  rw [hq_w_self] at g
  exact g
theorem hq_wf2_go {t : XT} {m s : Nat} {W : Nat → Int64} {A : Nat → Nat} {Q : Int64 → XT → Prop} (hm : t.1 3 = nI m) (hm60 : m ≤ 60) (hs : s < m) (hW : t.2.2.2 0 = W) (hA : ∀ k, k < m → W k = lN (A k)) (hQ : Q (lN (hq_tot t m 60 s A)) t) :
    ∀ (d c K : Nat) (li : Nat → Int32) (lj : Nat → Int64), c + d = m → 2 * d + 10 ≤ K → li 1 = nI s → li 5 = nI c → lj 3 = lN (hq_tot t c 60 s A) → wpX12_waysFrom K 1 t li lj Q := by
  intro d
  induction d with
  | zero =>
    intro c K li lj hd hK e1 e5 e3
    obtain ⟨K, rfl⟩ : ∃ K', K = K' + 1 := ⟨K - 1, by omega⟩
    obtain rfl : c = m := by omega
    show wbX12_waysFrom_1 (wpX12_waysFrom K) K t li lj Q
    exact ⟨fun _ => by rw [e3]; exact hQ, fun x => absurd (by rw [hm, e5]; exact nI_le (by omega) (by omega)) x⟩
  | succ d ih =>
    intro c K li lj hd hK e1 e5 e3
    obtain ⟨K, rfl⟩ : ∃ K', K = K' + 2 := ⟨K - 2, by omega⟩
    have cc : (nI c).toNatClampNeg = c := nI_clamp (by omega)
    have sg : hq_tot t (c + 1) 60 s A = hq_tot t c 60 s A + hq_sel (c ≠ 60 ∧ hm_faceT t c s) (A c) := rfl
    have nx : ∀ (b : Nat) (lj' : Nat → Int64), lj' 101 = lN b → lj' 100 = lN (hq_tot t c 60 s A) → b = hq_sel (c ≠ 60 ∧ hm_faceT t c s) (A c) → wpX12_waysFrom (K + 1) 2 t li lj' Q := by
      intro b lj' a1 a0 eb
      show wbX12_waysFrom_2 (wpX12_waysFrom K) K t li lj' Q
      intro v6 e6 v7 e7
      refine ih (c + 1) K (uI li 5 v7) _ (by omega) (by omega) e1 (by show v7 = _; rw [e7, e5]; exact hs_inc c) ?_
      show v6 = _
      rw [e6, a0, a1, sg, eb]; exact lN_add _ _
    show wbX12_waysFrom_1 (wpX12_waysFrom (K + 1)) (K + 1) t li lj Q
    unfold wbX12_waysFrom_1
    rw [e1, e5]
    refine ⟨fun x => absurd (show t.1 3 ≤ nI c from x) (by rw [hm]; exact nI_ge (by omega) (by omega)), fun _ => ?_⟩
    refine hm_isFaceThere (by omega) (by omega) (by omega) (fun fc => ⟨fun x => absurd x (by decide), fun _ => ⟨vp_in_nI (by omega) (by decide), fun v5 e5' => ?_⟩⟩) (fun nf => ⟨fun _ => nx 0 _ rfl e3 (hq_sel0 (fun z => nf z.2)).symm, fun x => absurd rfl x⟩)
    rw [hW, cc, hA c (by omega)] at e5'
    exact nx (A c) _ e5' e3 (hq_sel1 ⟨by omega, fc⟩).symm
theorem hq_waysFrom2 {t : XT} {m s e K : Nat} {Q : Int64 → XT → Prop} (hm : t.1 3 = nI m) (hm60 : m ≤ 60) (hM : hm_match t m) (hA : hm_acyc t m) (hs : s < m) (he : e < m) (hK : 30001 ≤ K) (hQ : ∀ W G A, hq_full t m e W A → Q (lN (hq_tot t m 60 s A)) (hq_w t W G)) : wqX12_waysFrom K t (nI s) (nI e) Q := by
  obtain ⟨K, rfl⟩ : ∃ K', K = K' + 1 := ⟨K - 1, by omega⟩
  show wbX12_waysFrom_0 (wpX12_waysFrom K) K t (uI (uI (fun _ => 0) 1 (nI s)) 2 (nI e)) (fun _ => 0) Q
  refine hq_laysWays2 hm hm60 hM hA he (by omega) (fun W G A hF => ?_)
  exact hq_wf2_go (t := hq_w t W G) (W := W) (A := A) hm hm60 hs rfl hF.1 (hQ W G A hF) m 0 K _ _ (by omega) (by omega) rfl rfl rfl
