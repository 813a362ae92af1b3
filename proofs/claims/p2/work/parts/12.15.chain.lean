/-! ===== reference, pure: laysLink, chain ===== -/
def hq_ci (m : Nat) (W : Nat → Int64) : Prop := ∃ A : Nat → Nat, (∀ k, k < m → W k = hq_U ∨ (W k).toInt.natAbs ≤ A k) ∧ 1 + hm_sum A m ≤ 2 ^ (61 - hq_unt m W)
theorem hq_Uabs : hq_U.toInt.natAbs = 9223372036854775807 := by decide
theorem hq_ci_step {m f : Nat} {W : Nat → Int64} {A : Nat → Nat} {v : Int64} (hm60 : m ≤ 60) (hf : f < m) (hU : W f = hq_U) (h2 : ∀ k, k < m → W k = hq_U ∨ (W k).toInt.natAbs ≤ A k) (h3 : 1 + hm_sum A m ≤ 2 ^ (61 - hq_unt m W)) (hv : v.toInt.natAbs ≤ 1 + hm_sum A m) :
    hq_ci m (vp_updL W f v) ∧ hq_unt m (vp_updL W f v) < hq_unt m W := by
  have u60 := hq_unt_le (W := W) m
  have le61 : (2 : Nat) ^ (61 - hq_unt m W) ≤ 2 ^ 61 := Nat.pow_le_pow_right (by omega) (by omega)
  have nu : v ≠ hq_U := by
    intro q
    rw [q, hq_Uabs] at hv
    have : (2 : Nat) ^ 61 < 9223372036854775807 := by decide
    omega
  have lt := hq_unt_lt (v := v) hf hU nu
  refine ⟨⟨fun k => if k = f then v.toInt.natAbs else A k, fun k hk => ?_, ?_⟩, lt⟩
  · by_cases x : k = f
    · refine Or.inr ?_
      rw [show vp_updL W f v k = v from if_pos x]
      show v.toInt.natAbs ≤ (if k = f then v.toInt.natAbs else A k)
      rw [if_pos x]; exact Nat.le_refl _
    · rw [show vp_updL W f v k = W k from if_neg x]
      show W k = hq_U ∨ (W k).toInt.natAbs ≤ (if k = f then v.toInt.natAbs else A k)
      rw [if_neg x]
      exact h2 k hk
  · have s := hq_sum_upd (A := A) (f := f) (B := v.toInt.natAbs) m
    have p : (2 : Nat) ^ (61 - hq_unt m W + 1) ≤ 2 ^ (61 - hq_unt m (vp_updL W f v)) := Nat.pow_le_pow_right (by omega) (by omega)
    have q : (2 : Nat) ^ (61 - hq_unt m W + 1) = 2 * 2 ^ (61 - hq_unt m W) := by rw [Nat.pow_succ]; omega
    omega
theorem hq_sum_at {A : Nat → Nat} {g : Nat} : ∀ m : Nat, g < m → hm_sum A g + A g ≤ hm_sum A m := by
  intro m
  induction m with
  | zero => intro h; omega
  | succ m ih =>
    intro h
    show hm_sum A g + A g ≤ hm_sum A m + A m
    by_cases x : g < m
    · have := ih x; omega
    · obtain rfl : g = m := by omega
      exact Nat.le_refl _
theorem hq_mul1 {x : Int64} {r : Int32} (hr : r = 1 ∨ r = -1) (hx : x.toInt.natAbs < 2 ^ 62) : (r.toInt64 * x).toInt.natAbs ≤ x.toInt.natAbs := by
  have k1 : ((1 : Int32).toInt64).toInt = 1 := by decide
  have k2 : ((-1 : Int32).toInt64).toInt = -1 := by decide
  have e : (r.toInt64 * x).toInt = x.toInt ∨ (r.toInt64 * x).toInt = -x.toInt := by
    rw [Int64.toInt_mul]
    rcases hr with q | q
    · refine Or.inl ?_
      rw [q, k1, Int.one_mul]; exact Int.bmod_eq_of_le (by omega) (by omega)
    · refine Or.inr ?_
      rw [q, k2, show (-1 : Int) * x.toInt = -x.toInt by omega]; exact Int.bmod_eq_of_le (by omega) (by omega)
  omega
theorem hq_add1 {x y : Int64} (hx : x.toInt.natAbs + y.toInt.natAbs < 2 ^ 63) : (x + y).toInt.natAbs ≤ x.toInt.natAbs + y.toInt.natAbs := by
  rw [Int64.toInt_add]
  rw [Int.bmod_eq_of_le (by omega) (by omega)]
  omega
theorem hq_sign_pm (t : XT) (f s : Nat) : hm_sign t f s = 1 ∨ hm_sign t f s = -1 := by
  unfold hm_sign
  by_cases c : hm_bc (hm_let t s &&& ((hm_let t s &&& (hm_let t f ^^^ (-1))) - 1)) - hm_bc (hm_let t s &&& ((hm_let t s &&& (hm_let t f ^^^ (-1))) - 1)) / 2 * 2 = 0
  · rw [if_pos c]; exact Or.inl rfl
  · rw [if_neg c]; exact Or.inr rfl
theorem hq_link_go {t : XT} {m f p : Nat} {W : Nat → Int64} {A : Nat → Nat} {Q : Int32 → XT → Prop} (hm : t.1 3 = nI m) (hm60 : m ≤ 60) (hf : f < m) (hp : p < m) (h2 : ∀ k, k < m → W k = hq_U ∨ (W k).toInt.natAbs ≤ A k) (hS : hm_sum A m < 2 ^ 62)
    (h1 : ∀ v : Int64, v.toInt.natAbs ≤ hm_sum A m → Q 1 (sB t 3 (vp_updL W f v))) (h0 : Q 0 (sB t 3 W)) :
    ∀ (d g K : Nat) (li : Nat → Int32) (lj : Nat → Int64), g + d = m → 2 * d + 10 ≤ K → (lj 3).toInt.natAbs ≤ hm_sum A g → li 1 = nI f → li 2 = nI p → li 5 = nI g → wpX12_laysLink K 1 (sB t 3 W) li lj Q := by
  have cf : (nI f).toNatClampNeg = f := nI_clamp (by omega)
  intro d
  induction d with
  | zero =>
    intro g K li lj hd hK hB e1 e2 e5
    obtain ⟨K, rfl⟩ : ∃ K', K = K' + 1 := ⟨K - 1, by omega⟩
    obtain rfl : g = m := by omega
    show wbX12_laysLink_1 (wpX12_laysLink K) K (sB t 3 W) li lj Q
    unfold wbX12_laysLink_1
    rw [e1, e2, e5]
    refine ⟨fun _ => ?_, fun x => absurd (show t.1 3 ≤ nI g by rw [hm]; exact nI_le (by omega) (by omega)) x⟩
    refine hm_signOf (t := sB t 3 W) (by omega) (by omega) (by omega) (fun v4 e4 v5 e5' v6 e6 => ⟨vp_in_nI (by omega) (by decide), fun t7 e7 => ?_⟩)
    rw [cf, hs_sBB] at e7
    rw [e7]
    refine h1 v6 ?_
    rw [e6, e5']
    have pm : v4 = 1 ∨ v4 = -1 := by
      rcases hq_sign_pm (sB t 3 W) p f with q | q
      · refine Or.inr ?_
        rw [e4, q]
      · refine Or.inl ?_
        rw [e4, q]; decide
    exact Nat.le_trans (hq_mul1 pm (by omega)) hB
  | succ d ih =>
    intro g K li lj hd hK hB e1 e2 e5
    obtain ⟨K, rfl⟩ : ∃ K', K = K' + 2 := ⟨K - 2, by omega⟩
    have cg : (nI g).toNatClampNeg = g := nI_clamp (by omega)
    have sg : hm_sum A (g + 1) = hm_sum A g + A g := rfl
    have sm := hq_sum_at (A := A) (g := g) m (by omega)
    have nx : ∀ (lj' : Nat → Int64), (lj' 3).toInt.natAbs ≤ hm_sum A (g + 1) → wpX12_laysLink (K + 1) 2 (sB t 3 W) li lj' Q := by
      intro lj' hB'
      show wbX12_laysLink_2 (wpX12_laysLink K) K (sB t 3 W) li lj' Q
      intro v e
      exact ih (g + 1) K (uI li 5 v) lj' (by omega) (by omega) hB' e1 e2 (by show v = _; rw [e, e5]; exact hs_inc g)
    show wbX12_laysLink_1 (wpX12_laysLink (K + 1)) (K + 1) (sB t 3 W) li lj Q
    unfold wbX12_laysLink_1
    rw [e1, e2, e5]
    refine ⟨fun x => absurd (show t.1 3 ≤ nI g from x) (by rw [hm]; exact nI_ge (by omega) (by omega)), fun _ => ⟨fun _ => nx lj (by omega), fun _ => ?_⟩⟩
    refine hm_isFaceThere (t := sB t 3 W) (by omega) (by omega) (by omega) (fun _ => ?_) (fun _ => ⟨fun x => absurd rfl x, fun _ => nx lj (by omega)⟩)
    refine ⟨fun _ => ⟨vp_in_nI (by omega) (by decide), fun v11 e11 v12 e12 => ⟨fun ne => ?_, fun _ => h0⟩⟩, fun x => absurd x (by decide)⟩
    have e11 : v11 = W g := e11.trans (congrArg W cg)
    refine hm_signOf (t := sB t 3 W) (by omega) (by omega) (by omega) (fun v15 e15 => ⟨vp_in_nI (by omega) (by decide), fun v16 e16 v17 e17 v18 e18 => ?_⟩)
    have e16 : v16 = W g := e16.trans (congrArg W cg)
    have told : (W g).toInt.natAbs ≤ A g := by
      rcases h2 g (by omega) with z | z
      · exact absurd (by rw [e12, e11, z]; exact (hs_cmp0 _ _).mpr rfl) ne
      · exact z
    refine nx _ ?_
    show v18.toInt.natAbs ≤ hm_sum A (g + 1)
    have m17 : v17.toInt.natAbs ≤ A g := by
      rw [e17, e15, e16]
      exact Nat.le_trans (hq_mul1 (hq_sign_pm _ _ _) (by omega)) told
    rw [e18]
    have u := hq_add1 (x := lj 3) (y := v17) (by omega)
    omega
theorem hq_laysLink {t : XT} {m f p K : Nat} {W : Nat → Int64} {A : Nat → Nat} {Q : Int32 → XT → Prop} (hm : t.1 3 = nI m) (hm60 : m ≤ 60) (hf : f < m) (hp : p < m) (ep : hm_par t f = nI p) (h2 : ∀ k, k < m → W k = hq_U ∨ (W k).toInt.natAbs ≤ A k) (hS : hm_sum A m < 2 ^ 62) (hK : 200 ≤ K)
    (h1 : ∀ v : Int64, v.toInt.natAbs ≤ hm_sum A m → Q 1 (sB t 3 (vp_updL W f v))) (h0 : Q 0 (sB t 3 W)) : wqX12_laysLink K (sB t 3 W) (nI f) Q := by
  obtain ⟨K, rfl⟩ : ∃ K', K = K' + 1 := ⟨K - 1, by omega⟩
  show wbX12_laysLink_0 (wpX12_laysLink K) K (sB t 3 W) (uI (fun _ => 0) 1 (nI f)) (fun _ => 0) Q
  refine ⟨vp_in_nI (n := f) (by omega) (by decide), fun v1 e1 => ?_⟩
  have e1 : v1 = nI p := e1.trans ((congrArg (t.2.2.1 4) (nI_clamp (by omega))).trans ep)
  exact hq_link_go hm hm60 hf hp h2 hS h1 h0 m 0 K _ _ (by omega) (by omega) (by show (0 : Int64).toInt.natAbs ≤ _; exact Nat.zero_le _) rfl e1 rfl
def hq_CJ (t : XT) (m u0 : Nat) (W : Nat → Int64) (v : Int32) : Prop := (hq_ci m W ∧ ∀ k, k < m → W k = hq_U → hm_par t k ≠ -1) ∧ hq_unt m W ≤ u0 ∧ (v = 0 ∨ hq_unt m W < u0)
theorem hq_chain_scan {t : XT} {m u0 : Nat} {a2 : Int32} {lj : Nat → Int64} {Q : Int64 → XT → Prop} (hm : t.1 3 = nI m) (hm60 : m ≤ 60) (hM : hm_match t m) (L : Nat) (hL : 250 ≤ L)
    (cont : ∀ (K' : Nat) (W : Nat → Int64) (li' : Nat → Int32), L ≤ K' → li' 2 = a2 → hq_CJ t m u0 W (li' 3) → wpX12_chain K' 7 (sB t 3 W) li' lj Q) :
    ∀ (d f K : Nat) (W : Nat → Int64) (li : Nat → Int32), f + d = m → 4 * d + L + 1 ≤ K → hq_CJ t m u0 W (li 3) → li 2 = a2 → li 4 = nI f → wpX12_chain K 8 (sB t 3 W) li lj Q := by
  intro d
  induction d with
  | zero =>
    intro f K W li hd hK hJ e2 e4
    obtain ⟨K, rfl⟩ : ∃ K', K = K' + 1 := ⟨K - 1, by omega⟩
    show wbX12_chain_8 (wpX12_chain K) K (sB t 3 W) li lj Q
    refine ⟨fun _ => cont K W li (by omega) e2 hJ, fun x => absurd ?_ x⟩
    show t.1 3 ≤ li 4
    rw [hm, e4]; exact nI_le (by omega) (by omega)
  | succ d ih =>
    intro f K W li hd hK hJ e2 e4
    obtain ⟨K, rfl⟩ : ∃ K', K = K' + 4 := ⟨K - 4, by omega⟩
    have cf : (nI f).toNatClampNeg = f := nI_clamp (by omega)
    have nx : ∀ (K' : Nat) (W' : Nat → Int64) (li' : Nat → Int32), K + 1 ≤ K' → hq_CJ t m u0 W' (li' 3) → li' 2 = a2 → li' 4 = nI f → wpX12_chain K' 11 (sB t 3 W') li' lj Q := by
      intro K' W' li' hK' hJ' a2' a4
      obtain ⟨K', rfl⟩ : ∃ K'', K' = K'' + 1 := ⟨K' - 1, by omega⟩
      show wbX12_chain_11 (wpX12_chain K') K' (sB t 3 W') li' lj Q
      intro v e
      exact ih (f + 1) K' W' (uI li' 4 v) (by omega) (by omega) hJ' a2' (by show v = _; rw [e, a4]; exact hs_inc f)
    have ten : ∀ (K' : Nat) (W' : Nat → Int64) (li' : Nat → Int32), K + 2 ≤ K' → hq_CJ t m u0 W' (li' 100) → li' 2 = a2 → li' 4 = nI f → wpX12_chain K' 10 (sB t 3 W') li' lj Q := by
      intro K' W' li' hK' hJ' a2' a4
      obtain ⟨K', rfl⟩ : ∃ K'', K' = K'' + 1 := ⟨K' - 1, by omega⟩
      show wbX12_chain_10 (wpX12_chain K') K' (sB t 3 W') li' lj Q
      exact nx K' W' _ (by omega) hJ' a2' a4
    have nine : ∀ (W' : Nat → Int64), hq_CJ t m u0 W' 1 → wpX12_chain (K + 3) 9 (sB t 3 W') li lj Q := by
      intro W' hJ'
      show wbX12_chain_9 (wpX12_chain (K + 2)) (K + 2) (sB t 3 W') li lj Q
      exact ten (K + 2) W' _ (by omega) hJ' e2 e4
    show wbX12_chain_8 (wpX12_chain (K + 3)) (K + 3) (sB t 3 W) li lj Q
    unfold wbX12_chain_8
    rw [e4]
    refine ⟨fun x => absurd (show t.1 3 ≤ nI f from x) (by rw [hm]; exact nI_ge (by omega) (by omega)), fun _ => ⟨vp_in_nI (by omega) (by decide), fun v27 e27 v28 e28 => ?_⟩⟩
    have e27 : v27 = W f := e27.trans (congrArg W cf)
    refine ⟨fun _ => nx _ W li (by omega) hJ e2 e4, fun z => ?_⟩
    have hU : W f = hq_U := by
      rw [e28, e27] at z
      exact (hs_cmp0 _ _).mp z
    obtain ⟨⟨⟨A, w2, w3⟩, w1⟩, j2, j3⟩ := hJ
    have hJ : hq_CJ t m u0 W (li 3) := ⟨⟨⟨A, w2, w3⟩, w1⟩, j2, j3⟩
    obtain ⟨p, hp, ep⟩ : ∃ p, p < m ∧ hm_par t f = nI p := by
      rcases hM f (by omega) with q | ⟨p, hp, e, _⟩
      · exact absurd q (w1 f (by omega) hU)
      · exact ⟨p, hp, e⟩
    have s62 : hm_sum A m < 2 ^ 62 := by
      have le61 : (2 : Nat) ^ (61 - hq_unt m W) ≤ 2 ^ 61 := Nat.pow_le_pow_right (by omega) (by omega)
      have : (2 : Nat) ^ 61 < 2 ^ 62 := by decide
      omega
    refine hq_laysLink hm hm60 (show f < m by omega) hp ep w2 s62 (by omega) (fun v hv => ?_) ?_
    · obtain ⟨g1, g2⟩ := hq_ci_step (v := v) hm60 (show f < m by omega) hU w2 w3 (by omega)
      refine ⟨fun _ => nine _ ⟨⟨g1, fun k hk q => ?_⟩, by omega, Or.inr (by omega)⟩, fun x => absurd x (by decide)⟩
      by_cases x : k = f
      · rw [x]; exact w1 f (by omega) hU
      · exact w1 k hk ((show vp_updL W f v k = W k from if_neg x).symm.trans q)
    · refine ⟨fun x => absurd rfl x, fun _ => ⟨fun _ => ten _ W (uI li 100 0) (by omega) ⟨hJ.1, j2, Or.inl rfl⟩ e2 e4, fun ne => nine W ⟨hJ.1, j2, Or.inr ?_⟩⟩⟩
      rcases j3 with y | y
      · exact absurd y ne
      · exact y
theorem hq_chain_loop {t : XT} {m k2 : Nat} {lj : Nat → Int64} {Q : Int64 → XT → Prop} (hm : t.1 3 = nI m) (hm60 : m ≤ 60) (hM : hm_match t m) (hk2 : k2 < m) (hQ : ∀ r W, Q r (sB t 3 W)) :
    ∀ (a K : Nat) (W : Nat → Int64) (li : Nat → Int32), 400 * a + 400 ≤ K → li 2 = nI k2 → (hq_ci m W ∧ ∀ k, k < m → W k = hq_U → hm_par t k ≠ -1) → (li 3 = 0 ∨ hq_unt m W < a) → wpX12_chain K 7 (sB t 3 W) li lj Q := by
  intro a
  induction a with
  | zero =>
    intro K W li hK e2 hW hv
    obtain ⟨K, rfl⟩ : ∃ K', K = K' + 1 := ⟨K - 1, by omega⟩
    show wbX12_chain_7 (wpX12_chain K) K (sB t 3 W) li lj Q
    refine ⟨fun _ => ⟨by rw [e2]; exact vp_in_nI (by omega) (by decide), fun v _ => hQ v W⟩, fun x => ?_⟩
    rcases hv with y | y
    · exact absurd y x
    · omega
  | succ a ih =>
    intro K W li hK e2 hW hv
    obtain ⟨K, rfl⟩ : ∃ K', K = K' + 1 := ⟨K - 1, by omega⟩
    show wbX12_chain_7 (wpX12_chain K) K (sB t 3 W) li lj Q
    refine ⟨fun _ => ⟨by rw [e2]; exact vp_in_nI (by omega) (by decide), fun v _ => hQ v W⟩, fun x => ?_⟩
    have lt : hq_unt m W < a + 1 := by
      rcases hv with y | y
      · exact absurd y x
      · exact y
    obtain ⟨L, hL⟩ : ∃ L, L = 400 * a + 400 := ⟨_, rfl⟩
    refine hq_chain_scan (u0 := hq_unt m W) (a2 := nI k2) hm hm60 hM L (by omega) (fun K' W' li' h1 b2 h2 => ih K' W' li' (by omega) b2 h2.1 ?_) m 0 K W _ (by omega) (by omega) ⟨hW, Nat.le_refl _, Or.inl rfl⟩ e2 rfl
    rcases h2.2.2 with y | y
    · exact Or.inl y
    · exact Or.inr (by omega)
def hq_ct (t : XT) (e k : Nat) (v : Int64) : Prop := (v = hq_U ∧ hm_par t k ≠ -1) ∨ v = 0 ∨ (v = 1 ∧ k = e)
theorem hq_chain_init {t : XT} {m e k2 : Nat} {Q : Int64 → XT → Prop} (hm : t.1 3 = nI m) (hm60 : m ≤ 60) (he : e < m) (hk2 : k2 < m) (L : Nat) (hL : 20 ≤ L)
    (cont : ∀ (K' : Nat) (W : Nat → Int64) (li' : Nat → Int32) (lj' : Nat → Int64), L ≤ K' → li' 2 = nI k2 → (∀ k, k < m → hq_ct t e k (W k)) → wpX12_chain K' 7 (sB t 3 W) li' lj' Q) :
    ∀ (d i K : Nat) (W : Nat → Int64) (li : Nat → Int32) (lj : Nat → Int64), i + d = m → 6 * d + L + 1 ≤ K → li 1 = nI e → li 2 = nI k2 → li 3 = nI i → (∀ k, k < i → hq_ct t e k (W k)) → wpX12_chain K 2 (sB t 3 W) li lj Q := by
  intro d
  induction d with
  | zero =>
    intro i K W li lj hd hK e1 e2 e3 hW
    obtain ⟨K, rfl⟩ : ∃ K', K = K' + 1 := ⟨K - 1, by omega⟩
    obtain rfl : i = m := by omega
    show wbX12_chain_2 (wpX12_chain K) K (sB t 3 W) li lj Q
    refine ⟨fun _ => cont K W _ lj (by omega) e2 hW, fun x => absurd ?_ x⟩
    show t.1 3 ≤ li 3
    rw [hm, e3]; exact nI_le (by omega) (by omega)
  | succ d ih =>
    intro i K W li lj hd hK e1 e2 e3 hW
    obtain ⟨K, rfl⟩ : ∃ K', K = K' + 6 := ⟨K - 6, by omega⟩
    have ci : (nI i).toNatClampNeg = i := nI_clamp (by omega)
    have six : ∀ (K2 : Nat) (li' : Nat → Int32) (lj' : Nat → Int64), K + 1 ≤ K2 → li' 1 = nI e → li' 2 = nI k2 → li' 3 = nI i → li' 101 = nI i → hq_ct t e i (lj' 102) → wpX12_chain K2 6 (sB t 3 W) li' lj' Q := by
      intro K2 li' lj' hK2 a1 a2 a3 a101 hv
      obtain ⟨K2, rfl⟩ : ∃ K', K2 = K' + 1 := ⟨K2 - 1, by omega⟩
      show wbX12_chain_6 (wpX12_chain K2) K2 (sB t 3 W) li' lj' Q
      unfold wbX12_chain_6
      rw [a101, a3]
      refine ⟨vp_in_nI (by omega) (by decide), fun t22 e22 v23 e23 => ?_⟩
      rw [ci, hs_sBB] at e22
      have e22 : t22 = sB t 3 (vp_updL W i (lj' 102)) := e22
      rw [e22]
      refine ih (i + 1) K2 _ _ lj' (by omega) (by omega) a1 a2 (e23.trans (hs_inc i)) (fun k hk => ?_)
      by_cases x : k = i
      · rw [x, show vp_updL W i (lj' 102) i = lj' 102 from if_pos rfl]; exact hv
      · rw [show vp_updL W i (lj' 102) k = W k from if_neg x]; exact hW k (by omega)
    have four0 : ∀ (K2 : Nat) (li' : Nat → Int32), K + 3 ≤ K2 → li' 1 = nI e → li' 2 = nI k2 → li' 3 = nI i → li' 100 = 0 → wpX12_chain K2 4 (sB t 3 W) li' lj Q := by
      intro K2 li' hK2 a1 a2 a3 a100
      obtain ⟨K2, rfl⟩ : ∃ K', K2 = K' + 2 := ⟨K2 - 2, by omega⟩
      have five : ∀ (b : Int32) (li'' : Nat → Int32), li'' 1 = nI e → li'' 2 = nI k2 → li'' 3 = nI i → li'' 101 = nI i → li'' 102 = b → (b = 0 ∨ (b = 1 ∧ i = e)) → wpX12_chain (K2 + 1) 5 (sB t 3 W) li'' lj Q := by
        intro b li'' c1 c2 c3 c101 c102 hb
        show wbX12_chain_5 (wpX12_chain K2) K2 (sB t 3 W) li'' lj Q
        unfold wbX12_chain_5
        rw [c102]
        rcases hb with z | ⟨z, y⟩
        · rw [z]
          refine hm_truth0 (by omega) (fun v e => six K2 _ _ (by omega) c1 c2 c3 c101 (Or.inr (Or.inl ?_)))
          show v = 0
          rw [e]; decide
        · rw [z]
          refine hm_truth1 (by omega) (fun v e => six K2 _ _ (by omega) c1 c2 c3 c101 (Or.inr (Or.inr ⟨?_, y⟩)))
          show v = 1
          rw [e]; decide
      show wbX12_chain_4 (wpX12_chain (K2 + 1)) (K2 + 1) (sB t 3 W) li' lj Q
      refine ⟨fun _ => ⟨fun _ => five 0 _ a1 a2 a3 a3 rfl (Or.inl rfl), fun y => five 1 _ a1 a2 a3 a3 rfl (Or.inr ⟨rfl, ?_⟩)⟩, fun y => absurd a100 y⟩
      exact (nI_eq (by omega) (by omega)).mp (a3.symm.trans (y.trans a1))
    have four1 : ∀ (K2 : Nat), K + 3 ≤ K2 → hm_par t i ≠ -1 → wpX12_chain K2 4 (sB t 3 W) (uI li 100 1) lj Q := by
      intro K2 hK2 np
      obtain ⟨K2, rfl⟩ : ∃ K', K2 = K' + 2 := ⟨K2 - 2, by omega⟩
      show wbX12_chain_4 (wpX12_chain (K2 + 1)) (K2 + 1) (sB t 3 W) (uI li 100 1) lj Q
      exact ⟨fun y => absurd (show (1 : Int32) = 0 from y) (by decide), fun _ => six (K2 + 1) _ _ (by omega) e1 e2 e3 e3 (Or.inl ⟨rfl, np⟩)⟩
    have three : ∀ (K2 : Nat), K + 4 ≤ K2 → wpX12_chain K2 3 (sB t 3 W) li lj Q := by
      intro K2 hK2
      obtain ⟨K2, rfl⟩ : ∃ K', K2 = K' + 1 := ⟨K2 - 1, by omega⟩
      show wbX12_chain_3 (wpX12_chain K2) K2 (sB t 3 W) li lj Q
      exact four0 K2 _ (by omega) e1 e2 e3 rfl
    show wbX12_chain_2 (wpX12_chain (K + 5)) (K + 5) (sB t 3 W) li lj Q
    unfold wbX12_chain_2
    rw [e2, e3]
    refine ⟨fun x => absurd (show t.1 3 ≤ nI i from x) (by rw [hm]; exact nI_ge (by omega) (by omega)), fun _ => ?_⟩
    refine hm_isThere (t := sB t 3 W) (a := nI i) hm hm60 (by omega) (fun _ _ _ _ => ?_) (fun _ => ⟨fun _ => three _ (by omega), fun x => absurd rfl x⟩)
    refine ⟨fun x => absurd x (by decide), fun _ => ⟨vp_in_nI (by omega) (by decide), fun v11 e11 => ⟨fun _ => three _ (by omega), fun np => ?_⟩⟩⟩
    have e11 : v11 = hm_par t i := e11.trans (congrArg (t.2.2.1 4) ci)
    have np : hm_par t i ≠ -1 := fun q => np (e11.trans q)
    refine hm_isLower (t := sB t 3 W) (by omega) (by omega) (fun _ => ⟨fun _ => three _ (by omega), fun x => absurd x (by decide)⟩) (fun _ => ⟨fun x => absurd rfl x, fun _ => ?_⟩)
    refine hm_dimOf (t := sB t 3 W) (by omega) (by omega) (hm_dimOf (t := sB t 3 W) (by omega) (by omega) ⟨fun _ => three _ (by omega), fun _ => four1 _ (by omega) np⟩)
theorem hq_chain {t : XT} {m n K : Nat} {a b : Int32} {Q : Int64 → XT → Prop} (hI : hq_inv t m n) (hK : 30000 ≤ K) (hQ : ∀ r t', hq_key t' = hq_key t → hq_inv t' m n → Q r t') : wqX12_chain K t a b Q := by
  obtain ⟨K, rfl⟩ : ∃ K', K = K' + 1 := ⟨K - 1, by omega⟩
  have hm := hI.1
  have hm60 := hI.2.1
  have out : wpX12_chain K 1 t (uI (uI (fun _ => 0) 1 a) 2 b) (fun _ => 0) Q := by
    obtain ⟨K, rfl⟩ : ∃ K', K = K' + 1 := ⟨K - 1, by omega⟩
    exact hQ _ t rfl hI
  show wbX12_chain_0 (wpX12_chain K) K t (uI (uI (fun _ => 0) 1 a) 2 b) (fun _ => 0) Q
  refine hm_isCritical (a := a) hm hm60 (by omega) (fun e he ea _ => ?_) (fun _ => ⟨fun _ => out, fun x => absurd rfl x⟩)
  refine ⟨fun x => absurd x (by decide), fun _ => ?_⟩
  refine hm_isThere (a := b) hm hm60 (by omega) (fun k2 hk2 eb _ => ?_) (fun _ => ⟨fun _ => out, fun x => absurd rfl x⟩)
  refine ⟨fun x => absurd x (by decide), fun _ => ?_⟩
  subst ea
  subst eb
  refine hm_dimOf (by omega) (by omega) (hm_dimOf (by omega) (by omega) ⟨fun _ => ?_, fun _ => out⟩)
  obtain ⟨L, hL⟩ : ∃ L, L = 25000 := ⟨_, rfl⟩
  have g := hq_chain_init (t := t) (Q := Q) hm hm60 he hk2 L (by omega) (fun K' W li' lj' h1 h2 hW => ?_) m 0 K (t.2.2.2 3) (uI (uI (uI (fun _ => 0) 1 (nI e)) 2 (nI k2)) 3 0) (fun _ => 0) (by omega) (by omega) rfl rfl rfl (fun k hk => absurd hk (by omega))
  · rw [hq_sB0] at g
    exact g
  · have u := hq_unt_le (W := W) m
    refine hq_chain_loop hm hm60 hI.2.2.2.1 hk2 (fun r W' => hQ r _ rfl (hq_frame (t := t) rfl rfl rfl rfl rfl rfl hI)) 61 K' W li' (by omega) h2 ⟨⟨fun k => if k = e then 1 else 0, fun k hk => ?_, ?_⟩, fun k hk q => ?_⟩ (Or.inr (by omega))
    · rcases hW k hk with ⟨z, _⟩ | z | ⟨z, y⟩
      · exact Or.inl z
      · refine Or.inr ?_
        rw [z]; show (0 : Nat) ≤ _; exact Nat.zero_le _
      · refine Or.inr ?_
        rw [z]
        show (1 : Nat) ≤ (if k = e then 1 else 0)
        rw [if_pos y]; exact Nat.le_refl _
    · have s := hq_sum_upd (A := fun _ => 0) (f := e) (B := 1) m
      rw [hq_sum0] at s
      have p : (2 : Nat) ^ 1 ≤ 2 ^ (61 - hq_unt m W) := Nat.pow_le_pow_right (by omega) (by omega)
      have s : hm_sum (fun k => if k = e then 1 else 0) m ≤ 0 + 1 := s
      omega
    · rcases hW k hk with ⟨_, z⟩ | z | ⟨z, _⟩
      · exact z
      · rw [z] at q; exact absurd q (by decide)
      · rw [z] at q; exact absurd q (by decide)
