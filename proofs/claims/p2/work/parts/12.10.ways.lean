/-! ===== reference, pure: areEnds, laysWay, laysWays end: what is told doubles at most, so what is untold is never met by chance ===== -/
def hq_w (t : XT) (W G : Nat → Int64) : XT := sB (sB t 0 W) 1 G
theorem hq_w0 (t : XT) (W G V : Nat → Int64) : sB (hq_w t W G) 0 V = hq_w t V G := by
  unfold hq_w sB uI
  refine Prod.ext rfl (Prod.ext rfl (Prod.ext rfl ?_))
  funext j
  show cond (Nat.beq j 0) V (cond (Nat.beq j 1) G (cond (Nat.beq j 0) W (t.2.2.2 j))) = cond (Nat.beq j 1) G (cond (Nat.beq j 0) V (t.2.2.2 j))
  cases h4 : Nat.beq j 0 with
  | false => cases Nat.beq j 1 <;> rfl
  | true => rw [Nat.eq_of_beq_eq_true h4]; rfl
theorem hq_w1 (t : XT) (W G V : Nat → Int64) : sB (hq_w t W G) 1 V = hq_w t W V := hs_sBB (sB t 0 W) 1 G V
def hq_U : Int64 := -9223372036854775807
theorem hq_U_ne {b : Nat} (h : b < 2 ^ 63) : lN b ≠ hq_U := by
  intro q
  have e := congrArg Int64.toInt q
  rw [pk_lT h] at e
  have u : hq_U.toInt = -9223372036854775807 := by decide
  rw [u] at e
  omega
def hq_unt (m : Nat) (W : Nat → Int64) : Nat := hm_sum (fun k => if W k = hq_U then 1 else 0) m
def hq_wi (t : XT) (m : Nat) (W : Nat → Int64) : Prop := (∀ k, k < m → W k = hq_U → hm_low t k) ∧ ∃ A : Nat → Nat, (∀ k, k < m → W k = hq_U ∨ W k = lN (A k)) ∧ hm_sum A m ≤ 2 ^ (60 - hq_unt m W)
theorem hq_sum_upd {A : Nat → Nat} {f B : Nat} : ∀ m : Nat, hm_sum (fun k => if k = f then B else A k) m ≤ hm_sum A m + B := by
  intro m
  induction m with
  | zero => exact Nat.zero_le _
  | succ m ih =>
    show hm_sum (fun k => if k = f then B else A k) m + (if m = f then B else A m) ≤ hm_sum A m + A m + B
    by_cases x : m = f
    · rw [if_pos x]
      have u : hm_sum (fun k => if k = f then B else A k) m ≤ hm_sum A m := hm_sum_le m (fun j hj => by rw [if_neg (show ¬ j = f by omega)]; exact Nat.le_refl _)
      omega
    · rw [if_neg x]; omega
theorem hq_unt_le {W : Nat → Int64} : ∀ m : Nat, hq_unt m W ≤ m := by
  intro m
  induction m with
  | zero => exact Nat.le_refl _
  | succ m ih =>
    show hm_sum (fun k => if W k = hq_U then 1 else 0) m + (if W m = hq_U then 1 else 0) ≤ m + 1
    have ih : hm_sum (fun k => if W k = hq_U then 1 else 0) m ≤ m := ih
    by_cases x : W m = hq_U
    · rw [if_pos x]; omega
    · rw [if_neg x]; omega
theorem hq_unt_lt {m f : Nat} {W : Nat → Int64} {v : Int64} (hf : f < m) (h : W f = hq_U) (hv : v ≠ hq_U) : hq_unt m (vp_updL W f v) < hq_unt m W := by
  unfold hq_unt
  refine hm_sum_lt m f hf ?_ (fun j _ => ?_)
  · show (if vp_updL W f v f = hq_U then 1 else 0) < (if W f = hq_U then 1 else 0)
    rw [if_pos h, if_neg (show ¬ vp_updL W f v f = hq_U from fun q => hv ((show vp_updL W f v f = v from if_pos rfl).symm.trans q))]
    exact Nat.zero_lt_one
  · show (if vp_updL W f v j = hq_U then 1 else 0) ≤ (if W j = hq_U then 1 else 0)
    by_cases x : j = f
    · rw [if_neg (show ¬ vp_updL W f v j = hq_U from fun q => hv ((show vp_updL W f v j = v from if_pos x).symm.trans q))]
      exact Nat.zero_le _
    · rw [show vp_updL W f v j = W j from if_neg x]
      exact Nat.le_refl _
theorem hq_wi_step {t : XT} {m f B : Nat} {W : Nat → Int64} {A : Nat → Nat} (hm60 : m ≤ 60) (hf : f < m) (hU : W f = hq_U) (h1 : ∀ k, k < m → W k = hq_U → hm_low t k) (h2 : ∀ k, k < m → W k = hq_U ∨ W k = lN (A k)) (h3 : hm_sum A m ≤ 2 ^ (60 - hq_unt m W)) (hB : B ≤ hm_sum A m) :
    hq_wi t m (vp_updL W f (lN B)) ∧ hq_unt m (vp_updL W f (lN B)) < hq_unt m W := by
  have u60 := hq_unt_le (W := W) m
  have le60 : (2 : Nat) ^ (60 - hq_unt m W) ≤ 2 ^ 60 := Nat.pow_le_pow_right (by omega) (by omega)
  have b63 : B < 2 ^ 63 := by
    have : (2 : Nat) ^ 60 < 2 ^ 63 := by decide
    omega
  have lt := hq_unt_lt (v := lN B) hf hU (hq_U_ne b63)
  refine ⟨⟨fun k hk q => ?_, fun k => if k = f then B else A k, fun k hk => ?_, ?_⟩, lt⟩
  · by_cases x : k = f
    · rw [x]; exact h1 f hf hU
    · exact h1 k hk ((show vp_updL W f (lN B) k = W k from if_neg x).symm.trans q)
  · by_cases x : k = f
    · exact Or.inr ((show vp_updL W f (lN B) k = lN B from if_pos x).trans (congrArg lN (if_pos x).symm))
    · rw [show vp_updL W f (lN B) k = W k from if_neg x]
      show W k = hq_U ∨ W k = lN (if k = f then B else A k)
      rw [if_neg x]
      exact h2 k hk
  · have s := hq_sum_upd (A := A) (f := f) (B := B) m
    have p : (2 : Nat) ^ (60 - hq_unt m W + 1) ≤ 2 ^ (60 - hq_unt m (vp_updL W f (lN B))) := Nat.pow_le_pow_right (by omega) (by omega)
    have q : (2 : Nat) ^ (60 - hq_unt m W + 1) = 2 * 2 ^ (60 - hq_unt m W) := by rw [Nat.pow_succ]; omega
    omega
theorem hq_way_go {t : XT} {m f p : Nat} {W G : Nat → Int64} {A : Nat → Nat} {Q : Int32 → XT → Prop} (hm : t.1 3 = nI m) (hm60 : m ≤ 60) (hf : f < m) (hp : p < m) (h2 : ∀ k, k < m → W k = hq_U ∨ W k = lN (A k))
    (h1 : ∀ B G', B ≤ hm_sum A m → Q 1 (hq_w t (vp_updL W f (lN B)) G')) (h0 : Q 0 (hq_w t W G)) :
    ∀ (d g K B : Nat) (li : Nat → Int32) (lj : Nat → Int64), g + d = m → 2 * d + 10 ≤ K → B ≤ hm_sum A g → li 1 = nI f → li 2 = nI p → li 7 = nI g → lj 3 = lN B → wpX12_laysWay K 1 (hq_w t W G) li lj Q := by
  have cf : (nI f).toNatClampNeg = f := nI_clamp (by omega)
  intro d
  induction d with
  | zero =>
    intro g K B li lj hd hK hB e1 e2 e7 e3
    obtain ⟨K, rfl⟩ : ∃ K', K = K' + 1 := ⟨K - 1, by omega⟩
    obtain rfl : g = m := by omega
    show wbX12_laysWay_1 (wpX12_laysWay K) K (hq_w t W G) li lj Q
    unfold wbX12_laysWay_1
    rw [e1, e2, e7]
    refine ⟨fun _ => ⟨vp_in_nI (by omega) (by decide), fun t3 e => ?_⟩, fun x => absurd (show t.1 3 ≤ nI g by rw [hm]; exact nI_le (by omega) (by omega)) x⟩
    have e : t3 = hq_w t (vp_updL W f (lN B)) G := by
      rw [e, hq_w0, cf, e3]; rfl
    rw [e]
    refine hm_signOf (by omega) (by omega) (by omega) (fun v5 _ v6 _ v7 _ => ⟨vp_in_nI (by omega) (by decide), fun t8 e8 => ?_⟩)
    rw [e8, hq_w1]
    exact h1 B _ hB
  | succ d ih =>
    intro g K B li lj hd hK hB e1 e2 e7 e3
    obtain ⟨K, rfl⟩ : ∃ K', K = K' + 2 := ⟨K - 2, by omega⟩
    have cg : (nI g).toNatClampNeg = g := nI_clamp (by omega)
    have sg : hm_sum A (g + 1) = hm_sum A g + A g := rfl
    have nx : ∀ (B' : Nat) (lj' : Nat → Int64), B' ≤ hm_sum A (g + 1) → lj' 3 = lN B' → wpX12_laysWay (K + 1) 2 (hq_w t W G) li lj' Q := by
      intro B' lj' hB' a3
      show wbX12_laysWay_2 (wpX12_laysWay K) K (hq_w t W G) li lj' Q
      intro v e
      exact ih (g + 1) K B' (uI li 7 v) lj' (by omega) (by omega) hB' e1 e2 (by show v = _; rw [e, e7]; exact hs_inc g) a3
    show wbX12_laysWay_1 (wpX12_laysWay (K + 1)) (K + 1) (hq_w t W G) li lj Q
    unfold wbX12_laysWay_1
    rw [e1, e2, e7]
    refine ⟨fun x => absurd (show t.1 3 ≤ nI g from x) (by rw [hm]; exact nI_ge (by omega) (by omega)), fun _ => ⟨fun _ => nx B lj (by omega) e3, fun _ => ?_⟩⟩
    refine hm_isFaceThere (by omega) (by omega) (by omega) (fun _ => ?_) (fun _ => ⟨fun x => absurd rfl x, fun _ => nx B lj (by omega) e3⟩)
    refine ⟨fun _ => ⟨vp_in_nI (by omega) (by decide), fun v12 e12 v13 e13 => ⟨fun ne => ?_, fun _ => h0⟩⟩, fun x => absurd x (by decide)⟩
    have e12 : v12 = W g := e12.trans (congrArg W cg)
    refine ⟨vp_in_nI (by omega) (by decide), fun v15 e15 v16 e16 => ?_⟩
    have e15 : v15 = W g := e15.trans (congrArg W cg)
    refine hm_signOf (by omega) (by omega) (by omega) (fun v18 _ => ⟨vp_in_nI (by omega) (by decide), fun v19 _ v20 _ v21 _ => ?_⟩)
    have told : W g = lN (A g) := by
      rcases h2 g (by omega) with z | z
      · exact absurd (by rw [e13, e12, z]; exact (hs_cmp0 _ _).mpr rfl) ne
      · exact z
    refine nx (B + A g) _ (by omega) ?_
    show v16 = lN (B + A g)
    rw [e16, e15, e3, told]; exact lN_add _ _
theorem hq_laysWay {t : XT} {m f K : Nat} {W G : Nat → Int64} {A : Nat → Nat} {Q : Int32 → XT → Prop} (hm : t.1 3 = nI m) (hm60 : m ≤ 60) (hM : hm_match t m) (hf : f < m) (lo : hm_low t f) (h2 : ∀ k, k < m → W k = hq_U ∨ W k = lN (A k)) (hK : 200 ≤ K)
    (h1 : ∀ B G', B ≤ hm_sum A m → Q 1 (hq_w t (vp_updL W f (lN B)) G')) (h0 : Q 0 (hq_w t W G)) : wqX12_laysWay K (hq_w t W G) (nI f) Q := by
  obtain ⟨K, rfl⟩ : ∃ K', K = K' + 1 := ⟨K - 1, by omega⟩
  obtain ⟨p, hp, ep⟩ := hm_match_pars hM f hf lo
  show wbX12_laysWay_0 (wpX12_laysWay K) K (hq_w t W G) (uI (fun _ => 0) 1 (nI f)) (fun _ => 0) Q
  refine ⟨vp_in_nI (n := f) (by omega) (by decide), fun v1 e1 => ?_⟩
  have e1 : v1 = nI p := e1.trans ((congrArg (t.2.2.1 4) (nI_clamp (by omega))).trans ep)
  exact hq_way_go hm hm60 hf hp h2 h1 h0 m 0 K 0 _ _ (by omega) (by omega) (Nat.zero_le _) rfl e1 rfl rfl
def hq_WJ (t : XT) (m u0 : Nat) (W : Nat → Int64) (v : Int32) : Prop := hq_wi t m W ∧ hq_unt m W ≤ u0 ∧ (v = 0 ∨ hq_unt m W < u0)
theorem hq_ways_scan {t : XT} {m u0 : Nat} {lj : Nat → Int64} {Q : XT → Prop} (hm : t.1 3 = nI m) (hm60 : m ≤ 60) (hM : hm_match t m) (L : Nat) (hL : 250 ≤ L)
    (cont : ∀ (K' : Nat) (W G : Nat → Int64) (li' : Nat → Int32), L ≤ K' → hq_WJ t m u0 W (li' 2) → wpX12_laysWays K' 7 (hq_w t W G) li' lj Q) :
    ∀ (d f K : Nat) (W G : Nat → Int64) (li : Nat → Int32), f + d = m → 4 * d + L + 1 ≤ K → hq_WJ t m u0 W (li 2) → li 3 = nI f → wpX12_laysWays K 8 (hq_w t W G) li lj Q := by
  intro d
  induction d with
  | zero =>
    intro f K W G li hd hK hJ e3
    obtain ⟨K, rfl⟩ : ∃ K', K = K' + 1 := ⟨K - 1, by omega⟩
    show wbX12_laysWays_8 (wpX12_laysWays K) K (hq_w t W G) li lj Q
    refine ⟨fun _ => cont K W G li (by omega) hJ, fun x => absurd ?_ x⟩
    show t.1 3 ≤ li 3
    rw [hm, e3]; exact nI_le (by omega) (by omega)
  | succ d ih =>
    intro f K W G li hd hK hJ e3
    obtain ⟨K, rfl⟩ : ∃ K', K = K' + 4 := ⟨K - 4, by omega⟩
    have cf : (nI f).toNatClampNeg = f := nI_clamp (by omega)
    have nx : ∀ (K' : Nat) (W' G' : Nat → Int64) (li' : Nat → Int32), K + 1 ≤ K' → hq_WJ t m u0 W' (li' 2) → li' 3 = nI f → wpX12_laysWays K' 11 (hq_w t W' G') li' lj Q := by
      intro K' W' G' li' hK' hJ' a3
      obtain ⟨K', rfl⟩ : ∃ K'', K' = K'' + 1 := ⟨K' - 1, by omega⟩
      show wbX12_laysWays_11 (wpX12_laysWays K') K' (hq_w t W' G') li' lj Q
      intro v e
      exact ih (f + 1) K' W' G' (uI li' 3 v) (by omega) (by omega) hJ' (by show v = _; rw [e, a3]; exact hs_inc f)
    have ten : ∀ (K' : Nat) (W' G' : Nat → Int64) (li' : Nat → Int32), K + 2 ≤ K' → hq_WJ t m u0 W' (li' 100) → li' 3 = nI f → wpX12_laysWays K' 10 (hq_w t W' G') li' lj Q := by
      intro K' W' G' li' hK' hJ' a3
      obtain ⟨K', rfl⟩ : ∃ K'', K' = K'' + 1 := ⟨K' - 1, by omega⟩
      show wbX12_laysWays_10 (wpX12_laysWays K') K' (hq_w t W' G') li' lj Q
      exact nx K' W' G' _ (by omega) hJ' a3
    have nine : ∀ (W' G' : Nat → Int64), hq_WJ t m u0 W' 1 → wpX12_laysWays (K + 3) 9 (hq_w t W' G') li lj Q := by
      intro W' G' hJ'
      show wbX12_laysWays_9 (wpX12_laysWays (K + 2)) (K + 2) (hq_w t W' G') li lj Q
      exact ten (K + 2) W' G' _ (by omega) hJ' e3
    show wbX12_laysWays_8 (wpX12_laysWays (K + 3)) (K + 3) (hq_w t W G) li lj Q
    unfold wbX12_laysWays_8
    rw [e3]
    refine ⟨fun x => absurd (show t.1 3 ≤ nI f from x) (by rw [hm]; exact nI_ge (by omega) (by omega)), fun _ => ⟨vp_in_nI (by omega) (by decide), fun v22 e22 v23 e23 => ?_⟩⟩
    have e22 : v22 = W f := e22.trans (congrArg W cf)
    refine ⟨fun _ => nx _ W G li (by omega) hJ e3, fun z => ?_⟩
    have hU : W f = hq_U := by
      rw [e23, e22] at z
      exact (hs_cmp0 _ _).mp z
    obtain ⟨⟨w1, A, w2, w3⟩, j2, j3⟩ := hJ
    have hJ : hq_WJ t m u0 W (li 2) := ⟨⟨w1, A, w2, w3⟩, j2, j3⟩
    refine hq_laysWay hm hm60 hM (show f < m by omega) (w1 f (by omega) hU) w2 (by omega) (fun B G' hB => ?_) ?_
    · obtain ⟨g1, g2⟩ := hq_wi_step hm60 (show f < m by omega) hU w1 w2 w3 hB
      exact ⟨fun _ => nine _ _ ⟨g1, by omega, Or.inr (by omega)⟩, fun x => absurd x (by decide)⟩
    · refine ⟨fun x => absurd rfl x, fun _ => ⟨fun _ => ten _ W G (uI li 100 0) (by omega) ⟨hJ.1, j2, Or.inl rfl⟩ e3, fun ne => nine W G ⟨hJ.1, j2, Or.inr ?_⟩⟩⟩
      rcases j3 with y | y
      · exact absurd y ne
      · exact y
theorem hq_ways_loop {t : XT} {m : Nat} {lj : Nat → Int64} {Q : XT → Prop} (hm : t.1 3 = nI m) (hm60 : m ≤ 60) (hM : hm_match t m) (hQ : ∀ W G, Q (hq_w t W G)) :
    ∀ (a K : Nat) (W G : Nat → Int64) (li : Nat → Int32), 400 * a + 400 ≤ K → hq_wi t m W → (li 2 = 0 ∨ hq_unt m W < a) → wpX12_laysWays K 7 (hq_w t W G) li lj Q := by
  intro a
  induction a with
  | zero =>
    intro K W G li hK hW hv
    obtain ⟨K, rfl⟩ : ∃ K', K = K' + 1 := ⟨K - 1, by omega⟩
    show wbX12_laysWays_7 (wpX12_laysWays K) K (hq_w t W G) li lj Q
    refine ⟨fun _ => hQ W G, fun x => ?_⟩
    rcases hv with y | y
    · exact absurd y x
    · omega
  | succ a ih =>
    intro K W G li hK hW hv
    obtain ⟨K, rfl⟩ : ∃ K', K = K' + 1 := ⟨K - 1, by omega⟩
    show wbX12_laysWays_7 (wpX12_laysWays K) K (hq_w t W G) li lj Q
    refine ⟨fun _ => hQ W G, fun x => ?_⟩
    have lt : hq_unt m W < a + 1 := by
      rcases hv with y | y
      · exact absurd y x
      · exact y
    obtain ⟨L, hL⟩ : ∃ L, L = 400 * a + 400 := ⟨_, rfl⟩
    refine hq_ways_scan (u0 := hq_unt m W) hm hm60 hM L (by omega) (fun K' W' G' li' h1 h2 => ih K' W' G' li' (by omega) h2.1 ?_) m 0 K W G _ (by omega) (by omega) ⟨hW, Nat.le_refl _, Or.inl rfl⟩ rfl
    rcases h2.2.2 with y | y
    · exact Or.inl y
    · exact Or.inr (by omega)
