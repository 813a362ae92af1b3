/-! ===== reference, pure: keep, same, partsMany, count ===== -/
theorem hq_02 {a : Int32} (c : 0 ≤ a ∧ a ≤ 2) : ∃ j, j ≤ 2 ∧ a = nI j := by
  refine nI_of2 (x := a) (M := 2) (n := 2) (by decide) (fun q => ?_) c.2
  have c1 := Int32.le_iff_toInt_le.mp c.1
  have q1 := Int32.lt_iff_toInt_lt.mp q
  omega
theorem hq_60 : ∀ j, j < 3 → (60 : Int32) * nI j = nI (60 * j) := by decide +kernel
theorem hq_keep_go {t : XT} {m j : Nat} {lj : Nat → Int64} {Q : Int32 → XT → Prop} (hm : t.1 3 = nI m) (hm60 : m ≤ 60) (hj : j ≤ 2) (hQ : ∀ r G, Q r (sA t 15 G)) :
    ∀ (d c K : Nat) (li : Nat → Int32) (G : Nat → Int32), c + d = m → d + 90 ≤ K → li 1 = nI j → li 2 = nI c → wpX12_keep K 2 (sA t 15 G) li lj Q := by
  intro d
  induction d with
  | zero =>
    intro c K li G hd hK e1 e2
    obtain ⟨K, rfl⟩ : ∃ K', K = K' + 1 := ⟨K - 1, by omega⟩
    show wbX12_keep_2 (wpX12_keep K) K (sA t 15 G) li lj Q
    refine ⟨fun _ => hm_pairMany (t := sA t 15 G) hm hm60 (by omega) (hQ _ G), fun x => absurd ?_ x⟩
    show t.1 3 ≤ li 2
    rw [hm, e2]; exact nI_le (by omega) (by omega)
  | succ d ih =>
    intro c K li G hd hK e1 e2
    obtain ⟨K, rfl⟩ : ∃ K', K = K' + 1 := ⟨K - 1, by omega⟩
    show wbX12_keep_2 (wpX12_keep K) K (sA t 15 G) li lj Q
    unfold wbX12_keep_2
    rw [e1, e2]
    refine ⟨fun x => absurd (show t.1 3 ≤ nI c from x) (by rw [hm]; exact nI_ge (by omega) (by omega)), fun _ v7 e7 v8 e8 => ?_⟩
    have e8 : v8 = nI (60 * j + c) := by
      rw [e8, e7, hq_60 j (by omega)]; exact nI_add _ _
    subst e8
    refine ⟨vp_in_nI (by omega) (by decide), fun v9 _ => ⟨vp_in_nI (by omega) (by decide), fun t10 e10 v11 e11 => ?_⟩⟩
    rw [hm_sAA] at e10
    rw [e10]
    exact ih (c + 1) K (uI li 2 v11) _ (by omega) (by omega) e1 (e11.trans (hs_inc c))
theorem hq_keep {t : XT} {m n K : Nat} {a : Int32} {Q : Int32 → XT → Prop} (hI : hq_inv t m n) (hK : 300 ≤ K) (hQ : ∀ r t', hq_key t' = hq_key t → hq_inv t' m n → Q r t') : wqX12_keep K t a Q := by
  obtain ⟨K, rfl⟩ : ∃ K', K = K' + 2 := ⟨K - 2, by omega⟩
  have hm := hI.1
  have hm60 := hI.2.1
  show wbX12_keep_0 (wpX12_keep (K + 1)) (K + 1) t (uI (fun _ => 0) 1 a) (fun _ => 0) Q
  refine ⟨fun _ => hQ (-1) t rfl hI, fun _ => ?_⟩
  refine hm_in (v := a) (lo := 0) (hi := 2) (by omega) ?_
  by_cases c : (0 : Int32) ≤ a ∧ a ≤ 2
  · rw [if_pos c]
    obtain ⟨j, hj, ej⟩ := hq_02 c
    subst ej
    refine ⟨fun _ => ⟨vp_in_nI (n := j) (by omega) (by decide), fun t4 e4 => ?_⟩, fun x => absurd x (by decide)⟩
    subst e4
    have g := hq_keep_go (t := sA t 14 (upd (t.2.2.1 14) (nI j).toNatClampNeg (vp_nar .boolean 1))) (lj := fun _ => 0) hm hm60 hj (fun r G => hQ r _ rfl (hq_frame rfl rfl rfl rfl rfl rfl hI)) m 0 (K + 1) (uI (uI (fun _ => 0) 1 (nI j)) 2 0) ((sA t 14 (upd (t.2.2.1 14) (nI j).toNatClampNeg (vp_nar .boolean 1))).2.2.1 15) (by omega) (by omega) rfl rfl
    rw [hm_sA0] at g
    exact g
  · rw [if_neg c]
    exact ⟨fun x => absurd rfl x, fun _ => hQ (-1) t rfl hI⟩
theorem hq_same_go {t : XT} {m j : Nat} {lj : Nat → Int64} {Q : Int32 → XT → Prop} (hm : t.1 3 = nI m) (hm60 : m ≤ 60) (hj : j ≤ 2) (hQ : ∀ r, Q r t) :
    ∀ (d c K : Nat) (li : Nat → Int32), c + d = m → 3 * d + 10 ≤ K → li 1 = nI j → li 3 = nI c → wpX12_same K 1 t li lj Q := by
  intro d
  induction d with
  | zero =>
    intro c K li hd hK e1 e3
    obtain ⟨K, rfl⟩ : ∃ K', K = K' + 1 := ⟨K - 1, by omega⟩
    show wbX12_same_1 (wpX12_same K) K t li lj Q
    exact ⟨fun _ => hQ _, fun x => absurd (by rw [hm, e3]; exact nI_le (by omega) (by omega)) x⟩
  | succ d ih =>
    intro c K li hd hK e1 e3
    obtain ⟨K, rfl⟩ : ∃ K', K = K' + 3 := ⟨K - 3, by omega⟩
    have nx : ∀ (K' : Nat) (li' : Nat → Int32), K + 1 ≤ K' → li' 1 = nI j → li' 3 = nI c → wpX12_same K' 3 t li' lj Q := by
      intro K' li' hK' a1 a3
      obtain ⟨K', rfl⟩ : ∃ K'', K' = K'' + 1 := ⟨K' - 1, by omega⟩
      show wbX12_same_3 (wpX12_same K') K' t li' lj Q
      refine hm_truth (by omega) (fun v14 _ v15 e15 => ?_)
      exact ih (c + 1) K' (uI (uI li' 2 v14) 3 v15) (by omega) (by omega) a1 (by show v15 = _; rw [e15, a3]; exact hs_inc c)
    have nx2 : ∀ li' : Nat → Int32, li' 1 = nI j → li' 3 = nI c → wpX12_same (K + 2) 2 t li' lj Q := by
      intro li' a1 a3
      show wbX12_same_2 (wpX12_same (K + 1)) (K + 1) t li' lj Q
      exact nx (K + 1) _ (by omega) a1 a3
    show wbX12_same_1 (wpX12_same (K + 2)) (K + 2) t li lj Q
    unfold wbX12_same_1
    rw [e1, e3]
    refine ⟨fun _ => hQ _, fun _ => ?_⟩
    refine hm_isLower (by omega) (by omega) (fun _ => ?_) (fun _ => ⟨fun _ => nx2 _ e1 e3, fun x => absurd rfl x⟩)
    refine ⟨fun x => absurd x (by decide), fun _ v8 e8 v9 e9 => ?_⟩
    have e9 : v9 = nI (60 * j + c) := by
      rw [e9, e8, hq_60 j (by omega)]; exact nI_add _ _
    subst e9
    exact ⟨vp_in_nI (by omega) (by decide), fun v10 _ => ⟨vp_in_nI (by omega) (by decide), fun v11 _ => ⟨fun _ => nx2 _ e1 e3, fun _ => nx _ _ (by omega) e1 e3⟩⟩⟩
theorem hq_same {t : XT} {m K : Nat} {a : Int32} {Q : Int32 → XT → Prop} (hm : t.1 3 = nI m) (hm60 : m ≤ 60) (hK : 300 ≤ K) (hQ : ∀ r, Q r t) : wqX12_same K t a Q := by
  obtain ⟨K, rfl⟩ : ∃ K', K = K' + 1 := ⟨K - 1, by omega⟩
  show wbX12_same_0 (wpX12_same K) K t (uI (fun _ => 0) 1 a) (fun _ => 0) Q
  refine hm_in (v := a) (lo := 0) (hi := 2) (by omega) ?_
  by_cases c : (0 : Int32) ≤ a ∧ a ≤ 2
  · rw [if_pos c]
    obtain ⟨j, hj, ej⟩ := hq_02 c
    subst ej
    refine ⟨fun _ => ⟨vp_in_nI (n := j) (by omega) (by decide), fun v3 _ => ⟨fun _ => ?_, fun _ => hQ _⟩⟩, fun x => absurd x (by decide)⟩
    exact hq_same_go (lj := fun _ => 0) hm hm60 hj hQ m 0 K _ (by omega) (by omega) rfl rfl
  · rw [if_neg c]
    exact ⟨fun x => absurd rfl x, fun _ => hQ _⟩
def hq_from (m : Nat) (F : Nat → Int32) : Prop := ∀ k, k < m → ∃ a, a < 60 ∧ F k = nI a
def hq_mu (m : Nat) (F : Nat → Int32) : Nat := hm_sum (fun k => (F k).toNatClampNeg) m
theorem hq_mu_step {m f s a b : Nat} {F : Nat → Int32} (hF : hq_from m F) (hf : f < m) (hs : s < m) (ha : a < 60) (hb : b < 60) (ea : F f = nI a) (eb : F s = nI b) (ne : ¬ F f = F s) (v : Int32) (hv : v = if F s < F f then F s else F f) :
    hq_from m (upd (upd F f v) s v) ∧ hq_mu m (upd (upd F f v) s v) < hq_mu m F := by
  have nab : a ≠ b := fun q => ne (by rw [ea, eb, q])
  have nfs : f ≠ s := fun q => ne (by rw [q])
  have hv : ∃ c, c ≤ a ∧ c ≤ b ∧ c < 60 ∧ (c < a ∨ c < b) ∧ v = nI c := by
    rw [ea, eb] at hv
    by_cases x : b < a
    · exact ⟨b, by omega, by omega, hb, by omega, by rw [hv, if_pos (nI_lt x (by omega))]⟩
    · exact ⟨a, by omega, by omega, ha, by omega, by rw [hv, if_neg (nI_nlt (by omega) (by omega))]⟩
  obtain ⟨c, c1, c2, c3, c4, rfl⟩ := hv
  have at' : ∀ k, upd (upd F f (nI c)) s (nI c) k = if k = s then nI c else if k = f then nI c else F k := fun k => rfl
  have le : ∀ k, k < m → (upd (upd F f (nI c)) s (nI c) k).toNatClampNeg ≤ (F k).toNatClampNeg := by
    intro k hk
    rw [at']
    by_cases x : k = s
    · rw [if_pos x, x, eb, nI_clamp (show c < 2 ^ 31 by omega), nI_clamp (show b < 2 ^ 31 by omega)]; exact c2
    · rw [if_neg x]
      by_cases y : k = f
      · rw [if_pos y, y, ea, nI_clamp (show c < 2 ^ 31 by omega), nI_clamp (show a < 2 ^ 31 by omega)]; exact c1
      · rw [if_neg y]; exact Nat.le_refl _
  refine ⟨fun k hk => ?_, ?_⟩
  · rw [at']
    by_cases x : k = s
    · exact ⟨c, c3, if_pos x⟩
    · by_cases y : k = f
      · exact ⟨c, c3, (if_neg x).trans (if_pos y)⟩
      · obtain ⟨d, d1, d2⟩ := hF k hk
        exact ⟨d, d1, (if_neg x).trans ((if_neg y).trans d2)⟩
  · unfold hq_mu
    rcases c4 with w | w
    · refine hm_sum_lt m f hf ?_ le
      show (upd (upd F f (nI c)) s (nI c) f).toNatClampNeg < (F f).toNatClampNeg
      rw [at', if_neg nfs, if_pos rfl, ea, nI_clamp (show c < 2 ^ 31 by omega), nI_clamp (show a < 2 ^ 31 by omega)]; exact w
    · refine hm_sum_lt m s hs ?_ le
      show (upd (upd F f (nI c)) s (nI c) s).toNatClampNeg < (F s).toNatClampNeg
      rw [at', if_pos rfl, eb, nI_clamp (show c < 2 ^ 31 by omega), nI_clamp (show b < 2 ^ 31 by omega)]; exact w
def hq_J (m μ0 : Nat) (F : Nat → Int32) (v : Int32) : Prop := hq_from m F ∧ hq_mu m F ≤ μ0 ∧ (v = 0 ∨ hq_mu m F < μ0)
theorem hq_parts_in {t : XT} {m f μ0 : Nat} {lj : Nat → Int64} {Q : Int32 → XT → Prop} (hm : t.1 3 = nI m) (hm60 : m ≤ 60) (hf : f < m) (L : Nat) (hL : 10 ≤ L)
    (cont : ∀ (K' : Nat) (F : Nat → Int32) (li' : Nat → Int32), L ≤ K' → hq_J m μ0 F (li' 1) → li' 2 = nI (f + 1) → wpX12_partsMany K' 3 (sA t 7 F) li' lj Q) :
    ∀ (d s K : Nat) (F : Nat → Int32) (li : Nat → Int32), s + d = m → 2 * d + L + 1 ≤ K → hq_J m μ0 F (li 1) → li 2 = nI f → li 3 = nI s → wpX12_partsMany K 4 (sA t 7 F) li lj Q := by
  intro d
  induction d with
  | zero =>
    intro s K F li hd hK hJ e2 e3
    obtain ⟨K, rfl⟩ : ∃ K', K = K' + 1 := ⟨K - 1, by omega⟩
    show wbX12_partsMany_4 (wpX12_partsMany K) K (sA t 7 F) li lj Q
    refine ⟨fun _ v e => cont K F (uI li 2 v) (by omega) hJ (by show v = _; rw [e, e2]; exact hs_inc f), fun x => absurd ?_ x⟩
    show t.1 3 ≤ li 3
    rw [hm, e3]; exact nI_le (by omega) (by omega)
  | succ d ih =>
    intro s K F li hd hK hJ e2 e3
    obtain ⟨K, rfl⟩ : ∃ K', K = K' + 2 := ⟨K - 2, by omega⟩
    have nx : ∀ (F' : Nat → Int32) (li' : Nat → Int32), hq_J m μ0 F' (li' 1) → li' 2 = nI f → li' 3 = nI s → wpX12_partsMany (K + 1) 5 (sA t 7 F') li' lj Q := by
      intro F' li' hJ' a2 a3
      show wbX12_partsMany_5 (wpX12_partsMany K) K (sA t 7 F') li' lj Q
      intro v e
      exact ih (s + 1) K F' (uI li' 3 v) (by omega) (by omega) hJ' a2 (by show v = _; rw [e, a3]; exact hs_inc s)
    have cf : (nI f).toNatClampNeg = f := nI_clamp (by omega)
    have cs : (nI s).toNatClampNeg = s := nI_clamp (by omega)
    show wbX12_partsMany_4 (wpX12_partsMany (K + 1)) (K + 1) (sA t 7 F) li lj Q
    unfold wbX12_partsMany_4
    rw [e2, e3]
    refine ⟨fun x => absurd (show t.1 3 ≤ nI s from x) (by rw [hm]; exact nI_ge (by omega) (by omega)), fun _ => ?_⟩
    refine hm_isFaceThere (by omega) (by omega) (by omega) (fun _ => ?_) (fun _ => ⟨fun _ => nx F li hJ e2 e3, fun x => absurd rfl x⟩)
    have inf : vp_in (nI f) 60 := vp_in_nI (by omega) (by decide)
    have ins : vp_in (nI s) 60 := vp_in_nI (by omega) (by decide)
    refine ⟨fun x => absurd x (by decide), fun _ => ⟨inf, fun v10 e10 => ⟨ins, fun v11 e11 => ⟨fun _ => nx F li hJ e2 e3, fun ne => ⟨inf, fun v13 e13 => ⟨ins, fun v14 e14 v15 e15 => ⟨inf, fun t16 e16 => ⟨ins, fun t17 e17 => ?_⟩⟩⟩⟩⟩⟩⟩⟩
    have e10 : v10 = F f := e10.trans (congrArg F cf)
    have e11 : v11 = F s := e11.trans (congrArg F cs)
    have e13 : v13 = F f := e13.trans (congrArg F cf)
    have e14 : v14 = F s := e14.trans (congrArg F cs)
    rw [e10, e11] at ne
    rw [e13, e14] at e15
    obtain ⟨a, ha, ea⟩ := hJ.1 f hf
    obtain ⟨b, hb, eb⟩ := hJ.1 s (by omega)
    obtain ⟨g1, g2⟩ := hq_mu_step hJ.1 hf (show s < m by omega) ha hb ea eb ne v15 e15
    have e17' : t17 = sA t 7 (upd (upd F f v15) s v15) := by
      rw [e17, e16]
      show sA (sA (sA t 7 F) 7 (upd F (nI f).toNatClampNeg v15)) 7 (upd (upd F (nI f).toNatClampNeg v15) (nI s).toNatClampNeg v15) = _
      rw [hm_sAA, hm_sAA, cf, cs]
    rw [e17']
    have := hJ.2.1
    exact nx _ (uI li 1 1) ⟨g1, by omega, Or.inr (by omega)⟩ e2 e3
theorem hq_parts_out {t : XT} {m μ0 : Nat} {lj : Nat → Int64} {Q : Int32 → XT → Prop} (hm : t.1 3 = nI m) (hm60 : m ≤ 60) (L : Nat) (hL : 10 ≤ L)
    (cont : ∀ (K' : Nat) (F : Nat → Int32) (li' : Nat → Int32), L ≤ K' → hq_J m μ0 F (li' 1) → wpX12_partsMany K' 2 (sA t 7 F) li' lj Q) :
    ∀ (d f K : Nat) (F : Nat → Int32) (li : Nat → Int32), f + d = m → 130 * d + L + 1 ≤ K → hq_J m μ0 F (li 1) → li 2 = nI f → wpX12_partsMany K 3 (sA t 7 F) li lj Q := by
  intro d
  induction d with
  | zero =>
    intro f K F li hd hK hJ e2
    obtain ⟨K, rfl⟩ : ∃ K', K = K' + 1 := ⟨K - 1, by omega⟩
    show wbX12_partsMany_3 (wpX12_partsMany K) K (sA t 7 F) li lj Q
    refine ⟨fun _ => cont K F li (by omega) hJ, fun x => absurd ?_ x⟩
    show t.1 3 ≤ li 2
    rw [hm, e2]; exact nI_le (by omega) (by omega)
  | succ d ih =>
    intro f K F li hd hK hJ e2
    obtain ⟨K, rfl⟩ : ∃ K', K = K' + 1 := ⟨K - 1, by omega⟩
    show wbX12_partsMany_3 (wpX12_partsMany K) K (sA t 7 F) li lj Q
    refine ⟨fun x => absurd (show t.1 3 ≤ li 2 from x) (by rw [hm, e2]; exact nI_ge (by omega) (by omega)), fun _ => ?_⟩
    obtain ⟨L2, hL2⟩ : ∃ L2, L2 = 130 * d + L + 1 := ⟨_, rfl⟩
    exact hq_parts_in hm hm60 (show f < m by omega) L2 (by omega) (fun K' F' li' h1 h2 h3 => ih (f + 1) K' F' li' (by omega) (by omega) h2 h3) m 0 K F (uI li 3 0) (by omega) (by omega) hJ e2 rfl
theorem hq_parts_count {t : XT} {m : Nat} {lj : Nat → Int64} {Q : Int32 → XT → Prop} (hm : t.1 3 = nI m) (hm60 : m ≤ 60) (hQ : ∀ r, Q r t) :
    ∀ (d c K : Nat) (li : Nat → Int32), c + d = m → 3 * d + 10 ≤ K → li 3 = nI c → wpX12_partsMany K 6 t li lj Q := by
  intro d
  induction d with
  | zero =>
    intro c K li hd hK e3
    obtain ⟨K, rfl⟩ : ∃ K', K = K' + 1 := ⟨K - 1, by omega⟩
    show wbX12_partsMany_6 (wpX12_partsMany K) K t li lj Q
    exact ⟨fun _ => hQ _, fun x => absurd (by rw [hm, e3]; exact nI_le (by omega) (by omega)) x⟩
  | succ d ih =>
    intro c K li hd hK e3
    obtain ⟨K, rfl⟩ : ∃ K', K = K' + 3 := ⟨K - 3, by omega⟩
    have nx : ∀ (K' : Nat) (li' : Nat → Int32), K + 1 ≤ K' → li' 3 = nI c → wpX12_partsMany K' 8 t li' lj Q := by
      intro K' li' hK' a3
      obtain ⟨K', rfl⟩ : ∃ K'', K' = K'' + 1 := ⟨K' - 1, by omega⟩
      show wbX12_partsMany_8 (wpX12_partsMany K') K' t li' lj Q
      refine hm_truth (by omega) (fun v14 _ v15 e15 => ?_)
      exact ih (c + 1) K' (uI (uI li' 2 v14) 3 v15) (by omega) (by omega) (by show v15 = _; rw [e15, a3]; exact hs_inc c)
    have nx2 : ∀ li' : Nat → Int32, li' 3 = nI c → wpX12_partsMany (K + 2) 7 t li' lj Q := by
      intro li' a3
      show wbX12_partsMany_7 (wpX12_partsMany (K + 1)) (K + 1) t li' lj Q
      exact nx (K + 1) _ (by omega) a3
    show wbX12_partsMany_6 (wpX12_partsMany (K + 2)) (K + 2) t li lj Q
    unfold wbX12_partsMany_6
    rw [e3]
    refine ⟨fun _ => hQ _, fun _ => ?_⟩
    refine hm_isThere hm hm60 (by omega) (fun j hj ej _ => ?_) (fun _ => ⟨fun _ => nx2 _ e3, fun x => absurd rfl x⟩)
    exact ⟨fun x => absurd x (by decide), fun _ => ⟨vp_in_nI (by omega) (by decide), fun v22 _ => ⟨fun _ => nx2 _ e3, fun _ => nx _ _ (by omega) e3⟩⟩⟩
theorem hq_parts_loop {t : XT} {m : Nat} {lj : Nat → Int64} {Q : Int32 → XT → Prop} (hm : t.1 3 = nI m) (hm60 : m ≤ 60) (hQ : ∀ r F, Q r (sA t 7 F)) :
    ∀ (a K : Nat) (F : Nat → Int32) (li : Nat → Int32), 8000 * a + 300 ≤ K → hq_from m F → (li 1 = 0 ∨ hq_mu m F < a) → wpX12_partsMany K 2 (sA t 7 F) li lj Q := by
  intro a
  induction a with
  | zero =>
    intro K F li hK hF hv
    obtain ⟨K, rfl⟩ : ∃ K', K = K' + 1 := ⟨K - 1, by omega⟩
    show wbX12_partsMany_2 (wpX12_partsMany K) K (sA t 7 F) li lj Q
    refine ⟨fun _ => hq_parts_count (t := sA t 7 F) hm hm60 (fun r => hQ r F) m 0 K _ (by omega) (by omega) rfl, fun x => ?_⟩
    rcases hv with y | y
    · exact absurd y x
    · omega
  | succ a ih =>
    intro K F li hK hF hv
    obtain ⟨K, rfl⟩ : ∃ K', K = K' + 1 := ⟨K - 1, by omega⟩
    show wbX12_partsMany_2 (wpX12_partsMany K) K (sA t 7 F) li lj Q
    refine ⟨fun _ => hq_parts_count (t := sA t 7 F) hm hm60 (fun r => hQ r F) m 0 K _ (by omega) (by omega) rfl, fun x => ?_⟩
    have lt : hq_mu m F < a + 1 := by
      rcases hv with y | y
      · exact absurd y x
      · exact y
    obtain ⟨L, hL⟩ : ∃ L, L = 8000 * a + 300 := ⟨_, rfl⟩
    refine hq_parts_out (μ0 := hq_mu m F) hm hm60 L (by omega) (fun K' F' li' h1 h2 => ih K' F' li' (by omega) h2.1 ?_) m 0 K F _ (by omega) (by omega) ⟨hF, Nat.le_refl _, Or.inl rfl⟩ rfl
    rcases h2.2.2 with y | y
    · exact Or.inl y
    · exact Or.inr (by omega)
theorem hq_parts_init {t : XT} {m : Nat} {lj : Nat → Int64} {Q : Int32 → XT → Prop} (hm : t.1 3 = nI m) (hm60 : m ≤ 60) (L : Nat)
    (cont : ∀ (K' : Nat) (F : Nat → Int32) (li' : Nat → Int32), L ≤ K' → hq_from m F → wpX12_partsMany K' 2 (sA t 7 F) li' lj Q) :
    ∀ (d c K : Nat) (F : Nat → Int32) (li : Nat → Int32), c + d = m → d + L + 1 ≤ K → (∀ k, k < c → F k = nI k) → li 1 = nI c → wpX12_partsMany K 1 (sA t 7 F) li lj Q := by
  intro d
  induction d with
  | zero =>
    intro c K F li hd hK hF e1
    obtain ⟨K, rfl⟩ : ∃ K', K = K' + 1 := ⟨K - 1, by omega⟩
    show wbX12_partsMany_1 (wpX12_partsMany K) K (sA t 7 F) li lj Q
    refine ⟨fun _ => cont K F _ (by omega) (fun k hk => ⟨k, by omega, hF k (by omega)⟩), fun x => absurd ?_ x⟩
    show t.1 3 ≤ li 1
    rw [hm, e1]; exact nI_le (by omega) (by omega)
  | succ d ih =>
    intro c K F li hd hK hF e1
    obtain ⟨K, rfl⟩ : ∃ K', K = K' + 1 := ⟨K - 1, by omega⟩
    have cc : (nI c).toNatClampNeg = c := nI_clamp (by omega)
    show wbX12_partsMany_1 (wpX12_partsMany K) K (sA t 7 F) li lj Q
    unfold wbX12_partsMany_1
    rw [e1]
    refine ⟨fun x => absurd (show t.1 3 ≤ nI c from x) (by rw [hm]; exact nI_ge (by omega) (by omega)), fun _ => ⟨vp_in_nI (by omega) (by decide), fun t2 e2 v3 e3 => ?_⟩⟩
    have e2' : t2 = sA t 7 (upd F c (nI c)) := by
      rw [e2]
      show sA (sA t 7 F) 7 (upd F (nI c).toNatClampNeg (nI c)) = _
      rw [hm_sAA, cc]
    rw [e2']
    refine ih (c + 1) K _ (uI li 1 v3) (by omega) (by omega) (fun k hk => ?_) (e3.trans (hs_inc c))
    show (if k = c then nI c else F k) = nI k
    by_cases x : k = c
    · rw [if_pos x, x]
    · rw [if_neg x]; exact hF k (by omega)
theorem hq_mu_le {m : Nat} {F : Nat → Int32} : hq_from m F → hq_mu m F ≤ 60 * m := by
  unfold hq_mu hq_from
  induction m with
  | zero => intro _; exact Nat.le_refl _
  | succ m ih =>
    intro h
    obtain ⟨a, ha, ea⟩ := h m (by omega)
    have u := ih (fun k hk => h k (by omega))
    show hm_sum (fun k => (F k).toNatClampNeg) m + (F m).toNatClampNeg ≤ 60 * (m + 1)
    rw [ea, nI_clamp (show a < 2 ^ 31 by omega)]
    omega
theorem hq_partsMany {t : XT} {m K : Nat} {Q : Int32 → XT → Prop} (hm : t.1 3 = nI m) (hm60 : m ≤ 60) (hK : 30000000 ≤ K) (hQ : ∀ r F, Q r (sA t 7 F)) : wqX12_partsMany K t Q := by
  obtain ⟨A, hA⟩ : ∃ A, A = 60 * m + 1 := ⟨_, rfl⟩
  obtain ⟨L, hL⟩ : ∃ L, L = 8000 * A + 300 := ⟨_, rfl⟩
  have hK : L + 100 ≤ K := by omega
  obtain ⟨K, rfl⟩ : ∃ K', K = K' + 1 := ⟨K - 1, by omega⟩
  have g := hq_parts_init (lj := fun _ => 0) (Q := Q) hm hm60 L (fun K' F li' h1 h2 => hq_parts_loop hm hm60 hQ A K' F li' (by omega) h2 (Or.inr (by have := hq_mu_le h2; omega))) m 0 K (t.2.2.1 7) (uI (fun _ => 0) 1 0) (by omega) (by omega) (fun k hk => absurd hk (by omega)) rfl
  rw [hm_sA0] at g
  exact g
theorem hq_count {t : XT} {m n K : Nat} {a : Int32} {Q : Int32 → XT → Prop} (hI : hq_inv t m n) (hK : 30000001 ≤ K) (hQ : ∀ r t', hq_key t' = hq_key t → hq_inv t' m n → Q r t') : wqX12_count K t a Q := by
  obtain ⟨B, hB⟩ : ∃ B, B = 30000000 := ⟨_, rfl⟩
  have hK : B + 1 ≤ K := by omega
  have hB3 : 300 ≤ B := by omega
  obtain ⟨K, rfl⟩ : ∃ K', K = K' + 1 := ⟨K - 1, by omega⟩
  have hm := hI.1
  have hm60 := hI.2.1
  have me : ∀ r, Q r t := fun r => hQ r t rfl hI
  show wbX12_count_0 (wpX12_count K) K t (uI (fun _ => 0) 1 a) (fun _ => 0) Q
  exact ⟨fun _ => me _, fun _ => me _, fun _ => hm_thereMany hm hm60 (by omega) (me _), fun _ => hq_greatestDim hm hm60 (by omega) me, fun _ => hm_pairMany hm hm60 (by omega) (me _), fun _ => hm_criticalMany hm hm60 (by omega) (me _), fun _ => hq_euler hm hm60 (by omega) me, fun _ => hq_partsMany hm hm60 (by omega) (fun r F => hQ r _ rfl (hq_frame rfl rfl rfl rfl rfl rfl hI)), fun _ => me _, fun _ => me _, fun _ => me _⟩
