/-! ===== the class, pure: what comes down along PATHS: start, pour; incidence, chain ===== -/
theorem hz_start {t : XT} {z : Int32} {m k K : Nat} {Q : XT → Prop} (hI : hx_inv t z m) (hk : k < 64) (hK : 301 ≤ K) (hQ : ∀ t', hx_inv t' z m → Q t') : wqX1_start K t (nI k) Q := by
  obtain ⟨K, rfl⟩ : ∃ K', K = K' + 1 := ⟨K - 1, by omega⟩
  show wbX1_start_0 (wpX1_start K) K t (uI (fun _ => 0) 1 (nI k)) (fun _ => 0) Q
  refine hz_measure hI (by omega) (fun t1 h1 t2 e2 => ⟨vp_in_nI hk (by decide), fun t3 e3 => hQ t3 ?_⟩)
  rw [e3, e2]; exact hx_same h1 rfl rfl
theorem hz_down_go {z : Int32} {m k : Nat} {Q : XT → Prop} (hk : k < 64) (hQ : ∀ t', hx_inv t' z m → Q t') :
    ∀ (d i K : Nat) (t : XT) (li : Nat → Int32) (lj : Nat → Int64), i + d = 5 → 2 * d + 10 ≤ K → hx_inv t z m → li 1 = nI k → li 5 = nI i → wpX1_goDown K 1 t li lj Q := by
  intro d
  induction d with
  | zero =>
    intro i K t li lj hd hK hI e1 e5
    obtain ⟨K, rfl⟩ : ∃ K', K = K' + 1 := ⟨K - 1, by omega⟩
    obtain rfl : i = 5 := by omega
    show wbX1_goDown_1 (wpX1_goDown K) K t li lj Q
    exact ⟨fun _ => hQ t hI, fun x => absurd (show nI 5 ≤ li 5 by rw [e5]; exact nI_le (by omega) (by omega)) x⟩
  | succ d ih =>
    intro i K t li lj hd hK hI e1 e5
    obtain ⟨K, rfl⟩ : ∃ K', K = K' + 2 := ⟨K - 2, by omega⟩
    have nx : ∀ (j : Nat) (li' : Nat → Int32) (lj' : Nat → Int64), j < 64 → li' 1 = nI k → li' 5 = nI i → li' 101 = nI j → wpX1_goDown (K + 1) 2 t li' lj' Q := by
      intro j li' lj' hj a1 a5 a101
      show wbX1_goDown_2 (wpX1_goDown K) K t li' lj' Q
      intro v15 _
      refine ⟨by rw [a101]; exact vp_in_nI hj (by decide), fun t16 e16 v17 e17 => ?_⟩
      exact ih (i + 1) K t16 _ _ (by omega) (by omega) (by rw [e16]; exact hx_same hI rfl rfl) a1 (by show v17 = _; rw [e17, a5]; exact hs_inc i)
    show wbX1_goDown_1 (wpX1_goDown (K + 1)) (K + 1) t li lj Q
    unfold wbX1_goDown_1
    rw [e1]
    refine ⟨fun _ => hQ t hI, fun _ v3 _ => ⟨fun _ => hQ t hI, fun _ => hz_lowest (by omega) (fun j hj v6 _ v7 _ => ⟨vp_in_nI hj (by decide), fun v8 _ => ⟨fun _ => ⟨vp_in_nI hk (by decide), fun v10 _ => nx j _ _ hj e1 e5 rfl⟩, fun _ => ⟨vp_in_nI hk (by decide), fun v11 _ => ?_⟩⟩⟩)⟩⟩
    exact hz_signOf hj hk (by omega) (fun r v13 _ v14 _ => nx j _ _ hj e1 e5 rfl)
theorem hz_goDown {t : XT} {z : Int32} {m k K : Nat} {a : Int32} {Q : XT → Prop} (hI : hx_inv t z m) (hk : k < 64) (hK : 30 ≤ K) (hQ : ∀ t', hx_inv t' z m → Q t') : wqX1_goDown K t (nI k) a Q := by
  obtain ⟨K, rfl⟩ : ∃ K', K = K' + 1 := ⟨K - 1, by omega⟩
  show wbX1_goDown_0 (wpX1_goDown K) K t (uI (uI (fun _ => 0) 1 (nI k)) 2 a) (fun _ => 0) Q
  exact hz_below hk (by omega) (fun v => hz_down_go hk hQ 5 0 K t _ _ (by omega) (by omega) hI rfl rfl)
theorem hz_goUp {t : XT} {z : Int32} {m k K : Nat} {a : Int32} {Q : XT → Prop} (hI : hx_inv t z m) (hk : k < 64) (hK : 10 ≤ K) (hQ : ∀ t', hx_inv t' z m → Q t') : wqX1_goUp K t (nI k) a Q := by
  obtain ⟨K, rfl⟩ : ∃ K', K = K' + 2 := ⟨K - 2, by omega⟩
  have i := vp_in_nI (n := k) (N := 64) hk (by decide)
  have one : ∀ (p : Nat) (li : Nat → Int32) (lj : Nat → Int64), p < 64 → li 101 = nI p → wpX1_goUp (K + 1) 1 t li lj Q := by
    intro p li lj hp a101
    show wbX1_goUp_1 (wpX1_goUp K) K t li lj Q
    intro v11 _
    exact ⟨by rw [a101]; exact vp_in_nI hp (by decide), fun t12 e12 => hQ t12 (by rw [e12]; exact hx_same hI rfl rfl)⟩
  show wbX1_goUp_0 (wpX1_goUp (K + 1)) (K + 1) t (uI (uI (fun _ => 0) 1 (nI k)) 2 a) (fun _ => 0) Q
  refine ⟨i, fun v1 e1 => ⟨fun lt => ?_, fun _ => hQ t hI⟩⟩
  have e1 : v1 = t.2.2.1 5 k := e1.trans (congrArg (t.2.2.1 5) (nI_clamp (by omega)))
  have lt : nI k < v1 := lt
  obtain ⟨p, hp, ep⟩ := hx_p_in (by rw [e1]; exact hI.2.2.2.2.2.2.2.1 k hk : hx_p v1) (fun q => by
    rw [q] at lt
    have w := Int32.lt_iff_toInt_lt.mp lt
    rw [nI_toInt (by omega)] at w
    have w : (k : Int) < -1 := w
    omega)
  subst ep
  refine ⟨vp_in_nI hp (by decide), fun v3 _ => ⟨fun _ => ⟨i, fun v5 _ => one p _ _ hp rfl⟩, fun _ => ⟨i, fun v6 _ v7 _ => ?_⟩⟩⟩
  exact hz_signOf hk hp (by omega) (fun r v9 _ v10 _ => one p _ _ hp rfl)
theorem hz_pour_go {z : Int32} {m : Nat} {Q : XT → Prop} (hQ : ∀ t', hx_inv t' z m → Q t') :
    ∀ (c K : Nat) (t : XT) (li : Nat → Int32) (lj : Nat → Int64), c ≤ 64 → 3 * c + 100 ≤ K → hx_inv t z m → li 3 = nI c - 1 → wpX1_pour K 1 t li lj Q := by
  intro c
  induction c with
  | zero =>
    intro K t li lj hc hK hI e3
    obtain ⟨K, rfl⟩ : ∃ K', K = K' + 1 := ⟨K - 1, by omega⟩
    show wbX1_pour_1 (wpX1_pour K) K t li lj Q
    exact ⟨fun _ => hQ t hI, fun x => absurd (by rw [e3]; exact (hz_neg1 (by omega)).mpr rfl) x⟩
  | succ s ih =>
    intro K t li lj hc hK hI e3
    have e3 : li 3 = nI s := e3.trans (nI_pred s)
    obtain ⟨K, rfl⟩ : ∃ K', K = K' + 3 := ⟨K - 3, by omega⟩
    have three : ∀ (K2 : Nat) (t' : XT) (li' : Nat → Int32), K + 1 ≤ K2 → hx_inv t' z m → li' 3 = nI s → wpX1_pour K2 3 t' li' lj Q := by
      intro K2 t' li' h hI' a3
      obtain ⟨K2, rfl⟩ : ∃ K', K2 = K' + 1 := ⟨K2 - 1, by omega⟩
      show wbX1_pour_3 (wpX1_pour K2) K2 t' li' lj Q
      intro v e
      exact ih K2 t' _ _ (by omega) (by omega) hI' (by show v = _; rw [e, a3]; exact hq_dec s)
    obtain ⟨k, hk, ek⟩ := hI.2.2.2.2.2.2.2.2.1 s (by omega)
    have two : ∀ li' : Nat → Int32, li' 3 = nI s → li' 4 = nI k → wpX1_pour (K + 2) 2 t li' lj Q := by
      intro li' a3 a4
      show wbX1_pour_2 (wpX1_pour (K + 1)) (K + 1) t li' lj Q
      unfold wbX1_pour_2
      rw [a4]
      exact ⟨vp_in_nI hk (by decide), fun _ _ _ _ => ⟨fun _ => three _ t li' (by omega) hI a3, fun _ => ⟨vp_in_nI hk (by decide), fun _ _ _ _ => ⟨fun _ => three _ t li' (by omega) hI a3, fun _ => hz_goUp hI hk (by omega) (fun t1 h1 => three _ t1 li' (by omega) h1 a3)⟩⟩⟩⟩
    show wbX1_pour_1 (wpX1_pour (K + 2)) (K + 2) t li lj Q
    refine ⟨fun _ => hQ t hI, fun _ => ⟨by rw [e3]; exact vp_in_nI (by omega) (by decide), fun v3 f3 => ?_⟩⟩
    have f3 : v3 = nI k := by
      rw [f3, e3]
      exact (congrArg (t.2.2.1 7) (nI_clamp (by omega))).trans ek
    subst f3
    exact ⟨vp_in_nI hk (by decide), fun _ _ _ _ => ⟨fun _ => two _ e3 rfl, fun _ => ⟨vp_in_nI hk (by decide), fun _ _ => ⟨fun _ => two _ e3 rfl, fun _ => hz_goDown hI hk (by omega) (fun t1 h1 => three _ t1 _ (by omega) h1 e3)⟩⟩⟩⟩
theorem hz_pour {t : XT} {z : Int32} {m K : Nat} {a b : Int32} {Q : XT → Prop} (hI : hx_inv t z m) (hK : 400 ≤ K) (hQ : ∀ t', hx_inv t' z m → Q t') : wqX1_pour K t a b Q := by
  obtain ⟨K, rfl⟩ : ∃ K', K = K' + 1 := ⟨K - 1, by omega⟩
  obtain ⟨o, ho, eo⟩ := hI.2.2.2.1
  show wbX1_pour_0 (wpX1_pour K) K t (uI (uI (fun _ => 0) 1 a) 2 b) (fun _ => 0) Q
  intro v1 e1
  exact hz_pour_go hQ o K t _ _ ho (by omega) hI (by show v1 = _; rw [e1, eo])
theorem hz_areEnds {t : XT} {z : Int32} {m K : Nat} {a b : Int32} {Q : Int32 → XT → Prop} (hI : hx_inv t z m) (hK : 10 ≤ K) (h1 : ∀ s e, s < m → e < m → a = nI s → b = nI e → Q 1 t) (h0 : Q 0 t) : wqX11_areEnds K t a b Q := by
  obtain ⟨K, rfl⟩ : ∃ K', K = K' + 2 := ⟨K - 2, by omega⟩
  have m60 := hI.2.2.1
  have out : wpX11_areEnds (K + 1) 1 t (uI (uI (fun _ => 0) 1 a) 2 b) (fun _ => 0) Q := h0
  have out2 : wpX11_areEnds (K + 1) 2 t (uI (uI (fun _ => 0) 1 a) 2 b) (fun _ => 0) Q := h0
  show wbX11_areEnds_0 (wpX11_areEnds (K + 1)) (K + 1) t (uI (uI (fun _ => 0) 1 a) 2 b) (fun _ => 0) Q
  refine hz_isThere hI (by omega) (fun s hs ea => ⟨fun x => absurd x (by decide), fun _ => ?_⟩) ⟨fun _ => out, fun x => absurd rfl x⟩
  refine hz_isThere hI (by omega) (fun e he eb => ⟨fun _ => ?_, fun x => absurd x (by decide)⟩) ⟨fun x => absurd rfl x, fun _ => out⟩
  have ea : a = nI s := ea
  have eb : b = nI e := eb
  subst ea
  subst eb
  refine ⟨vp_in_nI (n := s) (by omega) (by decide), fun _ _ => ⟨vp_in_nI (n := e) (by omega) (by decide), fun _ _ _ _ => ⟨fun _ => ?_, fun _ => h0⟩⟩⟩
  exact hz_isCritical (by omega) ⟨fun x => absurd x (by decide), fun _ => hz_isCritical (by omega) ⟨fun x => absurd x (by decide), fun _ => h1 s e hs he rfl rfl⟩ ⟨fun _ => out2, fun x => absurd rfl x⟩⟩ ⟨fun _ => out2, fun x => absurd rfl x⟩
theorem hz_incidence {t : XT} {z : Int32} {m K : Nat} {a b : Int32} {Q : Int64 → XT → Prop} (hI : hx_inv t z m) (hK : 500 ≤ K) (hQ : ∀ r t', hx_inv t' z m → Q r t') : wqX11_incidence K t a b Q := by
  obtain ⟨K, rfl⟩ : ∃ K', K = K' + 1 := ⟨K - 1, by omega⟩
  have m60 := hI.2.2.1
  show wbX11_incidence_0 (wpX11_incidence K) K t (uI (uI (fun _ => 0) 1 a) 2 b) (fun _ => 0) Q
  refine hz_areEnds hI (by omega) (fun s e hs he ea eb => ⟨fun _ => ?_, fun x => absurd x (by decide)⟩) ⟨fun x => absurd rfl x, fun _ => hQ _ t hI⟩
  have ea : a = nI s := ea
  have eb : b = nI e := eb
  subst ea
  subst eb
  exact hz_start hI (by omega) (by omega) (fun t1 h1 => ⟨vp_in_nI (n := s) (by omega) (by decide), fun v4 _ => hz_pour h1 (by omega) (fun t2 h2 => ⟨vp_in_nI (n := e) (by omega) (by decide), fun v6 _ => hQ v6 t2 h2⟩)⟩)
theorem hz_chain {t : XT} {z : Int32} {m K : Nat} {a b : Int32} {Q : Int64 → XT → Prop} (hI : hx_inv t z m) (hK : 500 ≤ K) (hQ : ∀ r t', hx_inv t' z m → Q r t') : wqX11_chain K t a b Q := by
  obtain ⟨K, rfl⟩ : ∃ K', K = K' + 2 := ⟨K - 2, by omega⟩
  have m60 := hI.2.2.1
  have out : wpX11_chain (K + 1) 1 t (uI (uI (fun _ => 0) 1 a) 2 b) (fun _ => 0) Q := hQ _ t hI
  show wbX11_chain_0 (wpX11_chain (K + 1)) (K + 1) t (uI (uI (fun _ => 0) 1 a) 2 b) (fun _ => 0) Q
  refine hz_isThere hI (by omega) (fun s hs ea => ⟨fun x => absurd x (by decide), fun _ => ?_⟩) ⟨fun _ => out, fun x => absurd rfl x⟩
  refine hz_isThere hI (by omega) (fun e he eb => ⟨fun x => absurd x (by decide), fun _ => ?_⟩) ⟨fun _ => out, fun x => absurd rfl x⟩
  have ea : a = nI s := ea
  have eb : b = nI e := eb
  subst ea
  subst eb
  refine hz_isCritical (by omega) ⟨fun _ => ?_, fun x => absurd x (by decide)⟩ ⟨fun x => absurd rfl x, fun _ => out⟩
  refine ⟨vp_in_nI (n := s) (by omega) (by decide), fun _ _ => ⟨vp_in_nI (n := e) (by omega) (by decide), fun _ _ => ⟨fun _ => ?_, fun _ => hQ _ t hI⟩⟩⟩
  exact hz_start hI (by omega) (by omega) (fun t1 h1 => ⟨vp_in_nI (n := s) (by omega) (by decide), fun v4 _ => hz_pour h1 (by omega) (fun t2 h2 => ⟨vp_in_nI (n := e) (by omega) (by decide), fun v6 _ => hQ v6 t2 h2⟩)⟩)
