/-! ===== the class, pure: taking apart, auto, feed ===== -/
theorem hz_look_go {z : Int32} {m : Nat} {Q : XT → Prop} (hQ : ∀ t', hx_inv t' z m → Q t') :
    ∀ (d i K : Nat) (t : XT) (li : Nat → Int32) (lj : Nat → Int64), i + d = 60 → 2 * d + 10 ≤ K → hx_inv t z m → li 5 = nI i → wpX7_lookAgain K 1 t li lj Q := by
  intro d
  induction d with
  | zero =>
    intro i K t li lj hd hK hI e5
    obtain ⟨K, rfl⟩ : ∃ K', K = K' + 1 := ⟨K - 1, by omega⟩
    obtain rfl : i = 60 := by omega
    show wbX7_lookAgain_1 (wpX7_lookAgain K) K t li lj Q
    exact ⟨fun _ => hQ t hI, fun x => absurd (show nI 60 ≤ li 5 by rw [e5]; exact nI_le (by omega) (by omega)) x⟩
  | succ d ih =>
    intro i K t li lj hd hK hI e5
    obtain ⟨K, rfl⟩ : ∃ K', K = K' + 2 := ⟨K - 2, by omega⟩
    have nx : ∀ (t' : XT) (li' : Nat → Int32) (lj' : Nat → Int64), hx_inv t' z m → li' 5 = nI i → wpX7_lookAgain (K + 1) 2 t' li' lj' Q := by
      intro t' li' lj' hI' a5
      show wbX7_lookAgain_2 (wpX7_lookAgain K) K t' li' lj' Q
      intro v e
      exact ih (i + 1) K t' _ _ (by omega) (by omega) hI' (by show v = _; rw [e, a5]; exact hs_inc i)
    show wbX7_lookAgain_1 (wpX7_lookAgain (K + 1)) (K + 1) t li lj Q
    refine ⟨fun _ => hQ t hI, fun _ v2 _ => ⟨fun _ => hQ t hI, fun _ => hz_lowest (by omega) (fun j hj v5 _ v6 _ => ⟨vp_in_nI hj (by decide), fun v7 _ v8 _ => hz_bc64 (by omega) (fun r _ => ⟨fun _ => ?_, fun _ => ?_⟩)⟩)⟩⟩
    · exact hz_bit (by omega) (fun _ v12 _ v13 _ t14 e14 => nx t14 _ _ (by rw [e14]; exact hx_same hI rfl rfl) e5)
    · exact hz_bit (by omega) (fun _ v16 _ t17 e17 => nx t17 _ _ (by rw [e17]; exact hx_same hI rfl rfl) e5)
theorem hz_lookAgain {t : XT} {z : Int32} {m K : Nat} {a : Int64} {Q : XT → Prop} (hI : hx_inv t z m) (hK : 200 ≤ K) (hQ : ∀ t', hx_inv t' z m → Q t') : wqX7_lookAgain K t a Q := by
  obtain ⟨K, rfl⟩ : ∃ K', K = K' + 1 := ⟨K - 1, by omega⟩
  exact hz_look_go hQ 60 0 K t _ _ (by omega) (by omega) hI rfl
theorem hz_begin {t : XT} {z : Int32} {m K : Nat} {a : Int64} {Q : XT → Prop} (hI : hx_inv t z m) (hK : 210 ≤ K) (hQ : ∀ t', hx_inv t' z m → Q t') : wqX7_begin K t a Q := by
  obtain ⟨K, rfl⟩ : ∃ K', K = K' + 1 := ⟨K - 1, by omega⟩
  show wbX7_begin_0 (wpX7_begin K) K t (fun _ => 0) (uI (fun _ => 0) 1 a) Q
  intro t1 e1 t2 e2
  exact hz_lookAgain (by rw [e2, e1]; exact hx_same hI rfl rfl) (by omega) hQ
theorem hz_close {t : XT} {z : Int32} {m k K : Nat} {Q : XT → Prop} (hI : hx_inv t z m) (hk : k < 64) (hK : 210 ≤ K) (hQ : ∀ t', hx_inv t' z m → Q t') : wqX7_close K t (nI k) Q := by
  obtain ⟨K, rfl⟩ : ∃ K', K = K' + 1 := ⟨K - 1, by omega⟩
  show wbX7_close_0 (wpX7_close K) K t (uI (fun _ => 0) 1 (nI k)) (fun _ => 0) Q
  refine hz_bit (by omega) (fun _ v2 _ v3 _ t4 e4 => hz_bit (by omega) (fun _ v6 _ v7 _ t8 e8 => ⟨vp_in_nI hk (by decide), fun _ _ _ _ => ?_⟩))
  exact hz_lookAgain (by rw [e8, e4]; exact hx_same hI rfl rfl) (by omega) hQ
theorem hz_above {t : XT} {k K : Nat} {Q : Int32 → XT → Prop} (hk : k < 64) (hK : 3 ≤ K) (h : ∀ j, j < 64 → Q (nI j) t) : wqX7_above K t (nI k) Q := by
  obtain ⟨K, rfl⟩ : ∃ K', K = K' + 1 := ⟨K - 1, by omega⟩
  show wbX7_above_0 (wpX7_above K) K t (uI (fun _ => 0) 1 (nI k)) (fun _ => 0) Q
  exact ⟨vp_in_nI hk (by decide), fun _ _ _ _ => hz_lowest (by omega) (fun j hj => h j hj)⟩
theorem hz_127 : ∀ j, j < 128 → nI j - 1 ≤ nI 127 := by decide +kernel
theorem hz_peel_go {z : Int32} {m : Nat} {Q : XT → Prop} (hQ : ∀ t', hx_inv t' z m → Q t') :
    ∀ (d i K : Nat) (t : XT) (li : Nat → Int32) (lj : Nat → Int64), i + d = 60 → 2 * d + 300 ≤ K → hx_inv t z m → li 1 = nI i → wpX11_pairByPeeling K 1 t li lj Q := by
  intro d
  induction d with
  | zero =>
    intro i K t li lj hd hK hI e1
    obtain ⟨K, rfl⟩ : ∃ K', K = K' + 1 := ⟨K - 1, by omega⟩
    obtain rfl : i = 60 := by omega
    show wbX11_pairByPeeling_1 (wpX11_pairByPeeling K) K t li lj Q
    exact ⟨fun _ => hQ t hI, fun x => absurd (show nI 60 ≤ li 1 by rw [e1]; exact nI_le (by omega) (by omega)) x⟩
  | succ d ih =>
    intro i K t li lj hd hK hI e1
    obtain ⟨K, rfl⟩ : ∃ K', K = K' + 2 := ⟨K - 2, by omega⟩
    have nx : ∀ (t' : XT), hx_inv t' z m → wpX11_pairByPeeling (K + 1) 2 t' li lj Q := by
      intro t' hI'
      show wbX11_pairByPeeling_2 (wpX11_pairByPeeling K) K t' li lj Q
      intro v e
      exact ih (i + 1) K t' _ _ (by omega) (by omega) hI' (by show v = _; rw [e, e1]; exact hs_inc i)
    show wbX11_pairByPeeling_1 (wpX11_pairByPeeling (K + 1)) (K + 1) t li lj Q
    refine ⟨fun _ => hQ t hI, fun _ v3 _ => ⟨fun _ => hQ t hI, fun _ v5 _ => ⟨fun _ => ?_, fun _ => ?_⟩⟩⟩
    · exact hz_bc64 (by omega) (fun j hj v8 e8 => hz_nth (by rw [e8]; exact hz_127 j hj) (by omega) (fun k hk => hz_close hI hk (by omega) nx))
    · exact hz_lowest (by omega) (fun j hj => hz_above hj (by omega) (fun k hk => hz_unite hI hj hk (by omega) (fun t1 h1 => hz_close h1 hk (by omega) (fun t2 h2 => hz_close h2 hj (by omega) nx))))
theorem hz_pairByPeeling {t : XT} {z : Int32} {m K : Nat} {Q : XT → Prop} (hI : hx_inv t z m) (hK : 500 ≤ K) (hQ : ∀ t', hx_inv t' z m → Q t') : wqX11_pairByPeeling K t Q := by
  obtain ⟨K, rfl⟩ : ∃ K', K = K' + 1 := ⟨K - 1, by omega⟩
  show wbX11_pairByPeeling_0 (wpX11_pairByPeeling K) K t (fun _ => 0) (fun _ => 0) Q
  exact hz_begin hI (by omega) (fun t1 h1 => hz_peel_go hQ 60 0 K t1 _ _ (by omega) (by omega) h1 rfl)
theorem hz_up_in {z : Int32} {m f : Nat} {Q : XT → Prop} (hf : f < m) (M : Nat) (hM : 10 ≤ M)
    (cont : ∀ (K' : Nat) (t' : XT) (li' : Nat → Int32) (lj' : Nat → Int64), M ≤ K' → hx_inv t' z m → li' 1 = nI f → wpX11_pairUpwards K' 5 t' li' lj' Q) :
    ∀ (d i K : Nat) (t : XT) (li : Nat → Int32) (lj : Nat → Int64), i + d = m + 1 → 2 * d + M + 210 ≤ K → hx_inv t z m → li 1 = nI f → li 4 = nI i → wpX11_pairUpwards K 3 t li lj Q := by
  intro d
  induction d with
  | zero =>
    intro i K t li lj hd hK hI e1 e4
    have m60 := hI.2.2.1
    obtain ⟨K, rfl⟩ : ∃ K', K = K' + 1 := ⟨K - 1, by omega⟩
    show wbX11_pairUpwards_3 (wpX11_pairUpwards K) K t li lj Q
    exact ⟨fun _ => cont K t li lj (by omega) hI e1, fun x => absurd (by rw [hI.2.1, e4]; exact nI_le (by omega) (by omega)) x⟩
  | succ d ih =>
    intro i K t li lj hd hK hI e1 e4
    have m60 := hI.2.2.1
    obtain ⟨K, rfl⟩ : ∃ K', K = K' + 2 := ⟨K - 2, by omega⟩
    have nx : ∀ (t' : XT) (lj' : Nat → Int64), hx_inv t' z m → wpX11_pairUpwards (K + 1) 4 t' li lj' Q := by
      intro t' lj' hI'
      show wbX11_pairUpwards_4 (wpX11_pairUpwards K) K t' li lj' Q
      intro v e
      exact ih (i + 1) K t' _ _ (by omega) (by omega) hI' e1 (by show v = _; rw [e, e4]; exact hs_inc i)
    show wbX11_pairUpwards_3 (wpX11_pairUpwards (K + 1)) (K + 1) t li lj Q
    unfold wbX11_pairUpwards_3
    rw [e1, e4]
    refine ⟨fun _ => cont _ t li lj (by omega) hI e1, fun _ v9 _ => ⟨fun _ => cont _ t li lj (by omega) hI e1, fun _ => ?_⟩⟩
    refine hz_isIn (by omega) ⟨fun x => absurd x (by decide), fun _ => ?_⟩ ⟨fun _ => nx t lj hI, fun x => absurd rfl x⟩
    exact hz_staysAcyclic hI (by omega) (by omega) (fun r => ⟨fun _ => nx t lj hI, fun _ => hz_unite hI (by omega) (by omega) (by omega) (fun t1 h1 => nx t1 _ h1)⟩)
theorem hz_up_out {z : Int32} {m : Nat} {Q : XT → Prop} (hQ : ∀ t', hx_inv t' z m → Q t') :
    ∀ (d i K : Nat) (t : XT) (li : Nat → Int32) (lj : Nat → Int64), i + d = m → 400 * d + 10 ≤ K → hx_inv t z m → li 1 = nI i → wpX11_pairUpwards K 1 t li lj Q := by
  intro d
  induction d with
  | zero =>
    intro i K t li lj hd hK hI e1
    have m60 := hI.2.2.1
    obtain ⟨K, rfl⟩ : ∃ K', K = K' + 1 := ⟨K - 1, by omega⟩
    show wbX11_pairUpwards_1 (wpX11_pairUpwards K) K t li lj Q
    exact ⟨fun _ => hQ t hI, fun x => absurd (by rw [hI.2.1, e1]; exact nI_le (by omega) (by omega)) x⟩
  | succ d ih =>
    intro i K t li lj hd hK hI e1
    have m60 := hI.2.2.1
    obtain ⟨K, rfl⟩ : ∃ K', K = K' + 2 := ⟨K - 2, by omega⟩
    obtain ⟨M, hM⟩ : ∃ M, M = 400 * d + 11 := ⟨_, rfl⟩
    have two : ∀ lj' : Nat → Int64, wpX11_pairUpwards (K + 1) 2 t li lj' Q := by
      intro lj'
      show wbX11_pairUpwards_2 (wpX11_pairUpwards K) K t li lj' Q
      intro v e
      refine hz_up_in (f := i) (by omega) M (by omega) (fun K' t' li' lj'' h1 hI' a1 => ?_) (m - i) (i + 1) K t _ _ (by omega) (by omega) hI e1 (by show v = _; rw [e, e1]; exact nI_1 i)
      obtain ⟨K', rfl⟩ : ∃ K'', K' = K'' + 1 := ⟨K' - 1, by omega⟩
      show wbX11_pairUpwards_5 (wpX11_pairUpwards K') K' t' li' lj'' Q
      intro w ew
      exact ih (i + 1) K' t' _ _ (by omega) (by omega) hI' (by show w = _; rw [ew, a1]; exact hs_inc i)
    show wbX11_pairUpwards_1 (wpX11_pairUpwards (K + 1)) (K + 1) t li lj Q
    have hin : vp_in (li 1) 64 := by rw [e1]; exact vp_in_nI (by omega) (by decide)
    refine ⟨fun _ => hQ t hI, fun _ => hz_isCritical (by omega) ⟨fun x => absurd x (by decide), fun _ => ⟨hin, fun _ _ => hz_unpaired (by omega) (fun _ _ _ => two _)⟩⟩ ⟨fun _ => two _, fun x => absurd rfl x⟩⟩
theorem hz_pairUpwards {t : XT} {z : Int32} {m K : Nat} {Q : XT → Prop} (hI : hx_inv t z m) (hK : 25000 ≤ K) (hQ : ∀ t', hx_inv t' z m → Q t') : wqX11_pairUpwards K t Q := by
  obtain ⟨K, rfl⟩ : ∃ K', K = K' + 1 := ⟨K - 1, by omega⟩
  have m60 := hI.2.2.1
  exact hz_up_out hQ m 0 K t _ _ (by omega) (by omega) hI rfl
theorem hz_neg1 {c : Nat} (hc : c < 100) : nI c - 1 < 0 ↔ c = 0 := by
  have e : (nI c - 1).toInt = (c : Int) - 1 := by
    rw [Int32.toInt_sub, nI_toInt (by omega)]
    show ((c : Int) - 1).bmod (2 ^ 32) = (c : Int) - 1
    exact Int.bmod_eq_of_le (by omega) (by omega)
  rw [Int32.lt_iff_toInt_lt, e]
  show (c : Int) - 1 < 0 ↔ c = 0
  omega
theorem hz_dn_in {z : Int32} {m s : Nat} {Q : XT → Prop} (hs : s < m) (M : Nat) (hM : 10 ≤ M)
    (cont : ∀ (K' : Nat) (t' : XT) (li' : Nat → Int32) (lj' : Nat → Int64), M ≤ K' → hx_inv t' z m → li' 1 = nI s → wpX11_pairDownwards K' 5 t' li' lj' Q) :
    ∀ (c K : Nat) (t : XT) (li : Nat → Int32) (lj : Nat → Int64), c ≤ s → 2 * c + M + 210 ≤ K → hx_inv t z m → li 1 = nI s → li 4 = nI c - 1 → wpX11_pairDownwards K 3 t li lj Q := by
  intro c
  induction c with
  | zero =>
    intro K t li lj hd hK hI e1 e4
    obtain ⟨K, rfl⟩ : ∃ K', K = K' + 1 := ⟨K - 1, by omega⟩
    show wbX11_pairDownwards_3 (wpX11_pairDownwards K) K t li lj Q
    exact ⟨fun _ => cont K t li lj (by omega) hI e1, fun x => absurd (by rw [e4]; exact (hz_neg1 (by omega)).mpr rfl) x⟩
  | succ f ih =>
    intro K t li lj hd hK hI e1 e4
    have m60 := hI.2.2.1
    have e4 : li 4 = nI f := e4.trans (nI_pred f)
    obtain ⟨K, rfl⟩ : ∃ K', K = K' + 2 := ⟨K - 2, by omega⟩
    have nx : ∀ (t' : XT) (lj' : Nat → Int64), hx_inv t' z m → wpX11_pairDownwards (K + 1) 4 t' li lj' Q := by
      intro t' lj' hI'
      show wbX11_pairDownwards_4 (wpX11_pairDownwards K) K t' li lj' Q
      intro v e
      exact ih K t' _ _ (by omega) (by omega) hI' e1 (by show v = _; rw [e, e4]; exact hq_dec f)
    show wbX11_pairDownwards_3 (wpX11_pairDownwards (K + 1)) (K + 1) t li lj Q
    unfold wbX11_pairDownwards_3
    rw [e1, e4]
    refine ⟨fun _ => cont _ t li lj (by omega) hI e1, fun _ v10 _ => ⟨fun _ => cont _ t li lj (by omega) hI e1, fun _ => ?_⟩⟩
    refine hz_isIn (by omega) ⟨fun x => absurd x (by decide), fun _ => ?_⟩ ⟨fun _ => nx t lj hI, fun x => absurd rfl x⟩
    exact hz_staysAcyclic hI (by omega) (by omega) (fun r => ⟨fun _ => nx t lj hI, fun _ => hz_unite hI (by omega) (by omega) (by omega) (fun t1 h1 => nx t1 _ h1)⟩)
theorem hz_dn_out {z : Int32} {m : Nat} {Q : XT → Prop} (hQ : ∀ t', hx_inv t' z m → Q t') :
    ∀ (c K : Nat) (t : XT) (li : Nat → Int32) (lj : Nat → Int64), c ≤ m → 400 * c + 10 ≤ K → hx_inv t z m → li 1 = nI c - 1 → wpX11_pairDownwards K 1 t li lj Q := by
  intro c
  induction c with
  | zero =>
    intro K t li lj hd hK hI e1
    obtain ⟨K, rfl⟩ : ∃ K', K = K' + 1 := ⟨K - 1, by omega⟩
    show wbX11_pairDownwards_1 (wpX11_pairDownwards K) K t li lj Q
    exact ⟨fun _ => hQ t hI, fun x => absurd (by rw [e1]; exact (hz_neg1 (by omega)).mpr rfl) x⟩
  | succ s ih =>
    intro K t li lj hd hK hI e1
    have m60 := hI.2.2.1
    have e1 : li 1 = nI s := e1.trans (nI_pred s)
    obtain ⟨K, rfl⟩ : ∃ K', K = K' + 2 := ⟨K - 2, by omega⟩
    obtain ⟨M, hM⟩ : ∃ M, M = 400 * s + 11 := ⟨_, rfl⟩
    have two : ∀ lj' : Nat → Int64, wpX11_pairDownwards (K + 1) 2 t li lj' Q := by
      intro lj'
      show wbX11_pairDownwards_2 (wpX11_pairDownwards K) K t li lj' Q
      intro v e
      refine hz_dn_in (s := s) (by omega) M (by omega) (fun K' t' li' lj'' h1 hI' a1 => ?_) s K t _ _ (by omega) (by omega) hI e1 (by show v = _; rw [e, e1])
      obtain ⟨K', rfl⟩ : ∃ K'', K' = K'' + 1 := ⟨K' - 1, by omega⟩
      show wbX11_pairDownwards_5 (wpX11_pairDownwards K') K' t' li' lj'' Q
      intro w ew
      exact ih K' t' _ _ (by omega) (by omega) hI' (by show w = _; rw [ew, a1]; exact hq_dec s)
    show wbX11_pairDownwards_1 (wpX11_pairDownwards (K + 1)) (K + 1) t li lj Q
    have hin : vp_in (li 1) 64 := by rw [e1]; exact vp_in_nI (by omega) (by decide)
    refine ⟨fun _ => hQ t hI, fun _ => hz_isCritical (by omega) ⟨fun x => absurd x (by decide), fun _ => ⟨hin, fun _ _ => hz_unpaired (by omega) (fun _ _ _ => two _)⟩⟩ ⟨fun _ => two _, fun x => absurd rfl x⟩⟩
theorem hz_pairDownwards {t : XT} {z : Int32} {m K : Nat} {Q : XT → Prop} (hI : hx_inv t z m) (hK : 25000 ≤ K) (hQ : ∀ t', hx_inv t' z m → Q t') : wqX11_pairDownwards K t Q := by
  obtain ⟨K, rfl⟩ : ∃ K', K = K' + 1 := ⟨K - 1, by omega⟩
  have m60 := hI.2.2.1
  show wbX11_pairDownwards_0 (wpX11_pairDownwards K) K t (fun _ => 0) (fun _ => 0) Q
  intro v1 e1
  exact hz_dn_out hQ m K t _ _ (Nat.le_refl _) (by omega) hI (by show v1 = _; rw [e1, hI.2.1])
theorem hz_auto {t : XT} {z : Int32} {m K : Nat} {a : Int32} {Q : Int32 → XT → Prop} (hI : hx_inv t z m) (hK : 25010 ≤ K) (hQ : ∀ r t', hx_inv t' z m → Q r t') : wqX11_auto K t a Q := by
  obtain ⟨K, rfl⟩ : ∃ K', K = K' + 2 := ⟨K - 2, by omega⟩
  have out : wpX11_auto (K + 1) 1 t (uI (fun _ => 0) 1 a) (fun _ => 0) Q := hQ _ t hI
  have two : ∀ t', hx_inv t' z m → wpX11_auto (K + 1) 2 t' (uI (fun _ => 0) 1 a) (fun _ => 0) Q := by
    intro t' h'
    show wbX11_auto_2 (wpX11_auto K) K t' (uI (fun _ => 0) 1 a) (fun _ => 0) Q
    exact hz_criticalOnes (by omega) (fun r => hQ r t' h')
  show wbX11_auto_0 (wpX11_auto (K + 1)) (K + 1) t (uI (fun _ => 0) 1 a) (fun _ => 0) Q
  refine ⟨fun _ => out, fun _ => ⟨fun _ => out, fun _ => ⟨fun _ => ?_, fun _ => out⟩⟩⟩
  exact hz_save hI (by omega) (fun t1 h1 => hz_restart h1 (by omega) (fun t2 h2 => ⟨fun _ => ⟨fun _ => hz_pairByPeeling h2 (by omega) two, fun _ => hz_pairDownwards h2 (by omega) two⟩, fun _ => hz_pairUpwards h2 (by omega) two⟩))
theorem hz_app1 {t : XT} {z m K : Nat} {v w : Int32} {li : Nat → Int32} {lj : Nat → Int64} {Q : XT → Prop} (hI : hx_inv t (nI z) m) (hz : z < 160) (hv : ¬ v < 0) (e2 : li 2 = v) (hw : v + Int32.ofInt (-8) = w)
    (h : ∀ t' li', hx_inv t' (nI (z + 1)) m → li' 2 = w → wpX10_append K 1 t' li' lj Q) : wpX10_append (K + 1) 1 t li lj Q := by
  obtain ⟨a1, ar⟩ := hI
  show wbX10_append_1 (wpX10_append K) K t li lj Q
  refine ⟨fun x => absurd (by rw [← e2]; exact x) hv, fun _ => ⟨fun x => absurd (show nI 160 ≤ nI z by rw [← a1]; exact x) (nI_ge (by omega) (by omega)), fun _ v3 _ v4 _ => ⟨by rw [a1]; exact vp_in_nI hz (by decide), fun t5 e5 v6 e6 t7 e7 v8 e8 => ?_⟩⟩⟩
  refine h t7 _ ?_ (by show v8 = _; rw [e8, e2]; exact hw)
  have f6 : v6 = nI (z + 1) := by rw [e6, e5]; exact (congrArg (· + 1) a1).trans (nI_1 z)
  subst e7 e5
  exact ⟨f6, ar⟩
theorem hz_append {t : XT} {z m K : Nat} {a : Int32} {Q : XT → Prop} (hI : hx_inv t (nI z) m) (hz : z + 4 ≤ 160) (hK : 6 ≤ K) (hQ : ∀ t', hx_inv t' (nI (z + 4)) m → Q t') : wqX10_append K t a Q := by
  obtain ⟨K, rfl⟩ : ∃ K', K = K' + 6 := ⟨K - 6, by omega⟩
  show wpX10_append (K + 5) 1 t (uI (uI (fun _ => 0) 1 a) 2 24) (fun _ => 0) Q
  refine hz_app1 (v := 24) (w := 16) hI (by omega) (by decide) rfl (by decide) (fun t1 l1 h1 e1 => ?_)
  refine hz_app1 (v := 16) (w := 8) h1 (by omega) (by decide) e1 (by decide) (fun t2 l2 h2 e2 => ?_)
  refine hz_app1 (v := 8) (w := 0) h2 (by omega) (by decide) e2 (by decide) (fun t3 l3 h3 e3 => ?_)
  refine hz_app1 (v := 0) (w := -8) h3 (by omega) (by decide) e3 (by decide) (fun t4 l4 h4 e4 => ?_)
  show wbX10_append_1 (wpX10_append K) K t4 l4 (fun _ => 0) Q
  exact ⟨fun _ => hQ t4 h4, fun x => absurd (by rw [e4]; decide) x⟩
theorem hz_feed {t : XT} {z m K : Nat} {a b c d e : Int32} {Q : Int32 → XT → Prop} (hI : hx_inv t (nI z) m) (hz : z ≤ 160) (hK : 10 ≤ K) (h1 : z + 20 ≤ 160 → ∀ t', hx_inv t' (nI (z + 20)) m → Q (nI (z + 20)) t') (h0 : ¬ z + 20 ≤ 160 → Q (-1) t) : wqX11_feed K t a b c d e Q := by
  obtain ⟨K, rfl⟩ : ∃ K', K = K' + 1 := ⟨K - 1, by omega⟩
  show wbX11_feed_0 (wpX11_feed K) K t (uI (uI (uI (uI (uI (fun _ => 0) 1 a) 2 b) 3 c) 4 d) 5 e) (fun _ => 0) Q
  intro v1 e1
  have e1 : v1 = nI (z + 20) := by rw [e1, hI.1]; exact nI_add z 20
  rw [e1]
  refine ⟨fun x => ?_, fun x => h0 (fun le => x (show nI (z + 20) ≤ nI 160 from nI_le le (by omega)))⟩
  have x : nI (z + 20) ≤ nI 160 := x
  have x := Int32.le_iff_toInt_le.mp x
  rw [nI_toInt (by omega), nI_toInt (by omega)] at x
  have le : z + 20 ≤ 160 := by omega
  refine hz_append hI (by omega) (by omega) (fun t1 i1 => hz_append i1 (by omega) (by omega) (fun t2 i2 => hz_append i2 (by omega) (by omega) (fun t3 i3 => hz_append i3 (by omega) (by omega) (fun t4 i4 => hz_append i4 (by omega) (by omega) (fun t5 i5 => ?_)))))
  rw [i5.1]
  exact h1 le t5 i5
