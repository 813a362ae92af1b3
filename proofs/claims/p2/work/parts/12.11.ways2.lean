/-! ===== reference, pure: laysWays, areEnds, waysFrom, incidenceOf, paths, incidence ===== -/
theorem hq_sB0 (t : XT) (k : Nat) : sB t k (t.2.2.2 k) = t := by
  unfold sB uI
  refine Prod.ext rfl (Prod.ext rfl (Prod.ext rfl ?_))
  funext j
  show cond (Nat.beq j k) (t.2.2.2 k) (t.2.2.2 j) = t.2.2.2 j
  cases h : Nat.beq j k with
  | true => rw [Nat.eq_of_beq_eq_true h]; rfl
  | false => rfl
theorem hq_w_self (t : XT) : hq_w t (t.2.2.2 0) (t.2.2.2 1) = t := by
  unfold hq_w
  rw [hq_sB0, hq_sB0]
theorem hq_sum0 : ∀ m : Nat, hm_sum (fun _ => 0) m = 0 := by
  intro m
  induction m with
  | zero => rfl
  | succ m ih =>
    show hm_sum (fun _ => 0) m + 0 = 0
    rw [ih]
def hq_told (t : XT) (e : Nat) (k : Nat) (v : Int64) : Prop := (v = hq_U → hm_low t k) ∧ (v = hq_U ∨ v = lN (if k = e then 1 else 0))
theorem hq_ways_init {t : XT} {m e : Nat} {Q : XT → Prop} (hm : t.1 3 = nI m) (hm60 : m ≤ 60) (he : e < m) (L : Nat) (hL : 20 ≤ L)
    (cont : ∀ (K' : Nat) (W G : Nat → Int64) (li' : Nat → Int32) (lj' : Nat → Int64), L ≤ K' → hq_wi t m W → wpX12_laysWays K' 7 (hq_w t W G) li' lj' Q) :
    ∀ (d c K : Nat) (W G : Nat → Int64) (li : Nat → Int32) (lj : Nat → Int64), c + d = m → 6 * d + L + 1 ≤ K → (∀ k, k < c → hq_told t e k (W k)) → li 1 = nI e → li 2 = nI c → wpX12_laysWays K 1 (hq_w t W G) li lj Q := by
  intro d
  induction d with
  | zero =>
    intro c K W G li lj hd hK hW e1 e2
    obtain ⟨K, rfl⟩ : ∃ K', K = K' + 1 := ⟨K - 1, by omega⟩
    obtain rfl : c = m := by omega
    show wbX12_laysWays_1 (wpX12_laysWays K) K (hq_w t W G) li lj Q
    refine ⟨fun _ => cont K W G _ lj (by omega) ⟨fun k hk => (hW k hk).1, fun k => if k = e then 1 else 0, fun k hk => (hW k hk).2, ?_⟩, fun x => absurd ?_ x⟩
    · have u := hq_sum_upd (A := fun _ => 0) (f := e) (B := 1) c
      rw [hq_sum0] at u
      exact Nat.le_trans u (show (2 : Nat) ^ 0 ≤ _ from Nat.pow_le_pow_right (by omega) (Nat.zero_le _))
    · show t.1 3 ≤ li 2
      rw [hm, e2]; exact nI_le (by omega) (by omega)
  | succ d ih =>
    intro c K W G li lj hd hK hW e1 e2
    obtain ⟨K, rfl⟩ : ∃ K', K = K' + 6 := ⟨K - 6, by omega⟩
    have cc : (nI c).toNatClampNeg = c := nI_clamp (by omega)
    have six : ∀ (K' : Nat) (W' : Nat → Int64) (li' : Nat → Int32) (lj' : Nat → Int64), K + 1 ≤ K' → (∀ k, k < c + 1 → hq_told t e k (W' k)) → li' 1 = nI e → li' 2 = nI c → li' 101 = nI c → wpX12_laysWays K' 6 (hq_w t W' G) li' lj' Q := by
      intro K' W' li' lj' hK' hW' a1 a2 a3
      obtain ⟨K', rfl⟩ : ∃ K'', K' = K'' + 1 := ⟨K' - 1, by omega⟩
      show wbX12_laysWays_6 (wpX12_laysWays K') K' (hq_w t W' G) li' lj' Q
      unfold wbX12_laysWays_6
      rw [a3]
      refine hm_truth (by omega) (fun v17 _ => ⟨vp_in_nI (by omega) (by decide), fun t18 e18 v19 e19 => ?_⟩)
      rw [hq_w1] at e18
      rw [e18]
      exact ih (c + 1) K' W' _ (uI li' 2 v19) lj' (by omega) (by omega) hW' a1 (by show v19 = _; rw [e19, a2]; exact hs_inc c)
    have five : ∀ (K' : Nat) (li' : Nat → Int32) (lj' : Nat → Int64), K + 2 ≤ K' → li' 1 = nI e → li' 2 = nI c → li' 101 = nI c → hq_told t e c (lj' 102) → wpX12_laysWays K' 5 (hq_w t W G) li' lj' Q := by
      intro K' li' lj' hK' a1 a2 a3 hv
      obtain ⟨K', rfl⟩ : ∃ K'', K' = K'' + 1 := ⟨K' - 1, by omega⟩
      show wbX12_laysWays_5 (wpX12_laysWays K') K' (hq_w t W G) li' lj' Q
      unfold wbX12_laysWays_5
      rw [a3]
      refine ⟨vp_in_nI (by omega) (by decide), fun t14 e14 => ?_⟩
      have e14 : t14 = hq_w t (vp_updL W c (lj' 102)) G := by
        rw [e14, hq_w0, cc]; rfl
      rw [e14]
      have hW' : ∀ k, k < c + 1 → hq_told t e k (vp_updL W c (lj' 102) k) := by
        intro k hk
        by_cases x : k = c
        · rw [show vp_updL W c (lj' 102) k = lj' 102 from if_pos x, x]; exact hv
        · rw [show vp_updL W c (lj' 102) k = W k from if_neg x]; exact hW k (by omega)
      exact ⟨fun _ => six K' _ _ lj' (by omega) hW' a1 a2 a2, fun _ => six K' _ _ lj' (by omega) hW' a1 a2 a2⟩
    have three0 : ∀ (K' : Nat) (li' : Nat → Int32), K + 4 ≤ K' → li' 1 = nI e → li' 2 = nI c → li' 100 = 0 → wpX12_laysWays K' 3 (hq_w t W G) li' lj Q := by
      intro K' li' hK' a1 a2 a3
      obtain ⟨K', rfl⟩ : ∃ K'', K' = K'' + 2 := ⟨K' - 2, by omega⟩
      show wbX12_laysWays_3 (wpX12_laysWays (K' + 1)) (K' + 1) (hq_w t W G) li' lj Q
      refine ⟨fun _ => ⟨fun ne => ?_, fun eq => ?_⟩, fun x => absurd a3 x⟩
      · have ne : ¬ c = e := fun q => ne (by rw [a1, a2, q])
        show wbX12_laysWays_4 (wpX12_laysWays K') K' (hq_w t W G) _ lj Q
        refine hm_truth (by omega) (fun v13 e13 => ?_)
        have e13 : v13 = lN 0 := by rw [e13]; rfl
        refine five K' _ _ (by omega) a1 a2 a2 ?_
        show hq_told t e c v13
        rw [e13]
        refine ⟨fun q => absurd q (hq_U_ne (by decide)), Or.inr ?_⟩
        rw [if_neg ne]
      · have eq : c = e := by
          have q : li' 2 = li' 1 := eq
          rw [a1, a2] at q
          exact (nI_eq (by omega) (by omega)).mp q
        show wbX12_laysWays_4 (wpX12_laysWays K') K' (hq_w t W G) _ lj Q
        refine hm_truth (by omega) (fun v13 e13 => ?_)
        have e13 : v13 = lN 1 := by rw [e13]; rfl
        refine five K' _ _ (by omega) a1 a2 a2 ?_
        show hq_told t e c v13
        rw [e13]
        refine ⟨fun q => absurd q (hq_U_ne (by decide)), Or.inr ?_⟩
        rw [if_pos eq]
    have three1 : ∀ (K' : Nat) (li' : Nat → Int32), K + 3 ≤ K' → li' 1 = nI e → li' 2 = nI c → li' 100 = 1 → hm_low t c → wpX12_laysWays K' 3 (hq_w t W G) li' lj Q := by
      intro K' li' hK' a1 a2 a3 lo
      obtain ⟨K', rfl⟩ : ∃ K'', K' = K'' + 1 := ⟨K' - 1, by omega⟩
      show wbX12_laysWays_3 (wpX12_laysWays K') K' (hq_w t W G) li' lj Q
      refine ⟨fun x => absurd (a3.symm.trans x) (by decide), fun _ => ?_⟩
      exact five K' _ _ (by omega) a1 a2 a2 ⟨fun _ => lo, Or.inl rfl⟩
    have two : wpX12_laysWays (K + 5) 2 (hq_w t W G) li lj Q := by
      show wbX12_laysWays_2 (wpX12_laysWays (K + 4)) (K + 4) (hq_w t W G) li lj Q
      exact three0 (K + 4) _ (by omega) e1 e2 rfl
    show wbX12_laysWays_1 (wpX12_laysWays (K + 5)) (K + 5) (hq_w t W G) li lj Q
    unfold wbX12_laysWays_1
    rw [e1, e2]
    refine ⟨fun x => absurd (show t.1 3 ≤ nI c from x) (by rw [hm]; exact nI_ge (by omega) (by omega)), fun _ => ?_⟩
    refine hm_isThere (t := hq_w t W G) hm hm60 (by omega) (fun j hj ej _ => ?_) (fun _ => ⟨fun _ => two, fun x => absurd rfl x⟩)
    refine ⟨fun x => absurd x (by decide), fun _ => ⟨fun _ => two, fun _ => ?_⟩⟩
    refine hm_isLower (t := hq_w t W G) (by omega) (by omega) (fun lo => ?_) (fun _ => ⟨fun _ => two, fun x => absurd rfl x⟩)
    refine ⟨fun x => absurd x (by decide), fun _ => ?_⟩
    refine hm_dimOf (by omega) (by omega) ?_
    refine hm_dimOf (by omega) (by omega) ?_
    exact ⟨fun _ => two, fun _ => three1 (K + 5) _ (by omega) e1 e2 rfl lo⟩
theorem hq_laysWays {t : XT} {m e K : Nat} {Q : XT → Prop} (hm : t.1 3 = nI m) (hm60 : m ≤ 60) (hM : hm_match t m) (he : e < m) (hK : 30000 ≤ K) (hQ : ∀ W G, Q (hq_w t W G)) : wqX12_laysWays K t (nI e) Q := by
  obtain ⟨A, hA⟩ : ∃ A, A = m + 1 := ⟨_, rfl⟩
  obtain ⟨L, hL⟩ : ∃ L, L = 400 * A + 400 := ⟨_, rfl⟩
  obtain ⟨K, rfl⟩ : ∃ K', K = K' + 1 := ⟨K - 1, by omega⟩
  have g := hq_ways_init (Q := Q) hm hm60 he L (by omega) (fun K' W G li' lj' h1 h2 => hq_ways_loop hm hm60 hM hQ A K' W G li' (by omega) h2 (Or.inr (by have := hq_unt_le (W := W) m; omega))) m 0 K (t.2.2.2 0) (t.2.2.2 1) (uI (uI (fun _ => 0) 1 (nI e)) 2 0) (fun _ => 0) (by omega) (by omega) (fun k hk => absurd hk (by omega)) rfl rfl
  rw [hq_w_self] at g
  exact g
theorem hq_areEnds {t : XT} {m K : Nat} {a b : Int32} {Q : Int32 → XT → Prop} (hm : t.1 3 = nI m) (hm60 : m ≤ 60) (hK : 20 ≤ K) (h1 : ∀ s e, s < m → e < m → a = nI s → b = nI e → hm_crit t s → hm_crit t e → hm_dim t s = hm_dim t e + 1 → Q 1 t) (h0 : Q 0 t) : wqX12_areEnds K t a b Q := by
  obtain ⟨K, rfl⟩ : ∃ K', K = K' + 1 := ⟨K - 1, by omega⟩
  have out : wpX12_areEnds K 1 t (uI (uI (fun _ => 0) 1 a) 2 b) (fun _ => 0) Q := by
    obtain ⟨K, rfl⟩ : ∃ K', K = K' + 1 := ⟨K - 1, by omega⟩
    exact h0
  show wbX12_areEnds_0 (wpX12_areEnds K) K t (uI (uI (fun _ => 0) 1 a) 2 b) (fun _ => 0) Q
  refine hm_isCritical hm hm60 (by omega) (fun s hs ea cs => ?_) (fun _ => ⟨fun _ => out, fun c => absurd rfl c⟩)
  refine ⟨fun c => absurd c (by decide), fun _ => ?_⟩
  refine hm_isCritical hm hm60 (by omega) (fun e he eb ce => ?_) (fun _ => ⟨fun _ => out, fun c => absurd rfl c⟩)
  refine ⟨fun c => absurd c (by decide), fun _ => ?_⟩
  have ea : a = nI s := ea
  have eb : b = nI e := eb
  subst ea
  subst eb
  refine hm_dimOf (by omega) (by omega) ?_
  refine hm_dimOf (by omega) (by omega) ?_
  intro v7 e7
  exact ⟨fun _ => out, fun q => h1 s e hs he rfl rfl cs ce (q.trans e7)⟩
theorem hq_wf_go {t : XT} {m s : Nat} {Q : Int64 → XT → Prop} (hm : t.1 3 = nI m) (hm60 : m ≤ 60) (hs : s < m) (hQ : ∀ r, Q r t) :
    ∀ (d c K : Nat) (li : Nat → Int32) (lj : Nat → Int64), c + d = m → 2 * d + 10 ≤ K → li 1 = nI s → li 5 = nI c → wpX12_waysFrom K 1 t li lj Q := by
  intro d
  induction d with
  | zero =>
    intro c K li lj hd hK e1 e5
    obtain ⟨K, rfl⟩ : ∃ K', K = K' + 1 := ⟨K - 1, by omega⟩
    show wbX12_waysFrom_1 (wpX12_waysFrom K) K t li lj Q
    exact ⟨fun _ => hQ _, fun x => absurd (by rw [hm, e5]; exact nI_le (by omega) (by omega)) x⟩
  | succ d ih =>
    intro c K li lj hd hK e1 e5
    obtain ⟨K, rfl⟩ : ∃ K', K = K' + 2 := ⟨K - 2, by omega⟩
    have nx : ∀ lj' : Nat → Int64, wpX12_waysFrom (K + 1) 2 t li lj' Q := by
      intro lj'
      show wbX12_waysFrom_2 (wpX12_waysFrom K) K t li lj' Q
      intro v6 _ v7 e7
      exact ih (c + 1) K (uI li 5 v7) _ (by omega) (by omega) e1 (by show v7 = _; rw [e7, e5]; exact hs_inc c)
    show wbX12_waysFrom_1 (wpX12_waysFrom (K + 1)) (K + 1) t li lj Q
    unfold wbX12_waysFrom_1
    rw [e1, e5]
    refine ⟨fun _ => hQ _, fun _ => ?_⟩
    exact hm_isFaceThere (by omega) (by omega) (by omega) (fun _ => ⟨fun x => absurd x (by decide), fun _ => ⟨vp_in_nI (by omega) (by decide), fun v5 _ => nx _⟩⟩) (fun _ => ⟨fun _ => nx _, fun x => absurd rfl x⟩)
theorem hq_waysFrom {t : XT} {m s e K : Nat} {Q : Int64 → XT → Prop} (hm : t.1 3 = nI m) (hm60 : m ≤ 60) (hM : hm_match t m) (hs : s < m) (he : e < m) (hK : 30001 ≤ K) (hQ : ∀ r W G, Q r (hq_w t W G)) : wqX12_waysFrom K t (nI s) (nI e) Q := by
  obtain ⟨K, rfl⟩ : ∃ K', K = K' + 1 := ⟨K - 1, by omega⟩
  show wbX12_waysFrom_0 (wpX12_waysFrom K) K t (uI (uI (fun _ => 0) 1 (nI s)) 2 (nI e)) (fun _ => 0) Q
  refine hq_laysWays hm hm60 hM he (by omega) (fun W G => ?_)
  exact hq_wf_go (t := hq_w t W G) hm hm60 hs (fun r => hQ r W G) m 0 K _ _ (by omega) (by omega) rfl rfl
theorem hq_io_go {t : XT} {m s : Nat} {Q : Int64 → XT → Prop} (hm : t.1 3 = nI m) (hm60 : m ≤ 60) (hs : s < m) (hQ : ∀ r, Q r t) :
    ∀ (d c K : Nat) (li : Nat → Int32) (lj : Nat → Int64), c + d = m → 2 * d + 10 ≤ K → li 1 = nI s → li 5 = nI c → wpX12_incidenceOf K 1 t li lj Q := by
  intro d
  induction d with
  | zero =>
    intro c K li lj hd hK e1 e5
    obtain ⟨K, rfl⟩ : ∃ K', K = K' + 1 := ⟨K - 1, by omega⟩
    show wbX12_incidenceOf_1 (wpX12_incidenceOf K) K t li lj Q
    exact ⟨fun _ => hQ _, fun x => absurd (by rw [hm, e5]; exact nI_le (by omega) (by omega)) x⟩
  | succ d ih =>
    intro c K li lj hd hK e1 e5
    obtain ⟨K, rfl⟩ : ∃ K', K = K' + 2 := ⟨K - 2, by omega⟩
    have nx : ∀ lj' : Nat → Int64, wpX12_incidenceOf (K + 1) 2 t li lj' Q := by
      intro lj'
      show wbX12_incidenceOf_2 (wpX12_incidenceOf K) K t li lj' Q
      intro v6 _ v7 e7
      exact ih (c + 1) K (uI li 5 v7) _ (by omega) (by omega) e1 (by show v7 = _; rw [e7, e5]; exact hs_inc c)
    show wbX12_incidenceOf_1 (wpX12_incidenceOf (K + 1)) (K + 1) t li lj Q
    unfold wbX12_incidenceOf_1
    rw [e1, e5]
    refine ⟨fun _ => hQ _, fun _ => ?_⟩
    refine hm_isFaceThere (by omega) (by omega) (by omega) (fun _ => ⟨fun x => absurd x (by decide), fun _ => ?_⟩) (fun _ => ⟨fun _ => nx _, fun x => absurd rfl x⟩)
    exact hm_signOf (by omega) (by omega) (by omega) (fun v6 _ => ⟨vp_in_nI (by omega) (by decide), fun v7 _ v8 _ => nx _⟩)
theorem hq_incidenceOf {t : XT} {m s e K : Nat} {Q : Int64 → XT → Prop} (hm : t.1 3 = nI m) (hm60 : m ≤ 60) (hM : hm_match t m) (hs : s < m) (he : e < m) (hK : 30001 ≤ K) (hQ : ∀ r W G, Q r (hq_w t W G)) : wqX12_incidenceOf K t (nI s) (nI e) Q := by
  obtain ⟨K, rfl⟩ : ∃ K', K = K' + 1 := ⟨K - 1, by omega⟩
  show wbX12_incidenceOf_0 (wpX12_incidenceOf K) K t (uI (uI (fun _ => 0) 1 (nI s)) 2 (nI e)) (fun _ => 0) Q
  refine hq_laysWays hm hm60 hM he (by omega) (fun W G => ?_)
  exact hq_io_go (t := hq_w t W G) hm hm60 hs (fun r => hQ r W G) m 0 K _ _ (by omega) (by omega) rfl rfl
theorem hq_paths {t : XT} {m n K : Nat} {a b : Int32} {Q : Int64 → XT → Prop} (hI : hq_inv t m n) (hK : 30002 ≤ K) (hQ : ∀ r t', hq_key t' = hq_key t → hq_inv t' m n → Q r t') : wqX12_paths K t a b Q := by
  obtain ⟨K, rfl⟩ : ∃ K', K = K' + 1 := ⟨K - 1, by omega⟩
  show wbX12_paths_0 (wpX12_paths K) K t (uI (uI (fun _ => 0) 1 a) 2 b) (fun _ => 0) Q
  refine hq_areEnds (a := a) (b := b) hI.1 hI.2.1 (by omega) (fun s e hs he ea eb _ _ _ => ?_) ⟨fun _ => hQ _ t rfl hI, fun x => absurd rfl x⟩
  subst ea
  subst eb
  refine ⟨fun x => absurd x (by decide), fun _ => ?_⟩
  exact hq_waysFrom hI.1 hI.2.1 hI.2.2.2.1 hs he (by omega) (fun r W G => hQ r _ rfl (hq_frame rfl rfl rfl rfl rfl rfl hI))
theorem hq_incidence {t : XT} {m n K : Nat} {a b : Int32} {Q : Int64 → XT → Prop} (hI : hq_inv t m n) (hK : 30002 ≤ K) (hQ : ∀ r t', hq_key t' = hq_key t → hq_inv t' m n → Q r t') : wqX12_incidence K t a b Q := by
  obtain ⟨K, rfl⟩ : ∃ K', K = K' + 1 := ⟨K - 1, by omega⟩
  show wbX12_incidence_0 (wpX12_incidence K) K t (uI (uI (fun _ => 0) 1 a) 2 b) (fun _ => 0) Q
  refine hq_areEnds (a := a) (b := b) hI.1 hI.2.1 (by omega) (fun s e hs he ea eb _ _ _ => ?_) ⟨fun _ => hQ _ t rfl hI, fun x => absurd rfl x⟩
  subst ea
  subst eb
  refine ⟨fun x => absurd x (by decide), fun _ => ?_⟩
  exact hq_incidenceOf hI.1 hI.2.1 hI.2.2.2.1 hs he (by omega) (fun r W G => hQ r _ rfl (hq_frame rfl rfl rfl rfl rfl rfl hI))
