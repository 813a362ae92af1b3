/-! ===== the class, pure: how many PATHS, single PATHS; cancel, through, squares, root, link ===== -/
theorem hz_hold_go {z : Int32} {m : Nat} {lj : Nat → Int64} {Q : XT → Prop} (hQ : ∀ t', hx_inv t' z m → Q t') :
    ∀ (d i K : Nat) (t : XT) (li : Nat → Int32), i + d = 64 → 2 * d + 10 ≤ K → hx_inv t z m → li 3 = nI i → wpX1_holdOnly K 1 t li lj Q := by
  intro d
  induction d with
  | zero =>
    intro i K t li hd hK hI e3
    obtain ⟨K, rfl⟩ : ∃ K', K = K' + 1 := ⟨K - 1, by omega⟩
    obtain rfl : i = 64 := by omega
    show wbX1_holdOnly_1 (wpX1_holdOnly K) K t li lj Q
    exact ⟨fun _ => hQ t hI, fun x => absurd (show nI 64 ≤ li 3 by rw [e3]; exact nI_le (by omega) (by omega)) x⟩
  | succ d ih =>
    intro i K t li hd hK hI e3
    obtain ⟨K, rfl⟩ : ∃ K', K = K' + 2 := ⟨K - 2, by omega⟩
    have nx : ∀ t' : XT, hx_inv t' z m → wpX1_holdOnly (K + 1) 2 t' li lj Q := by
      intro t' hI'
      show wbX1_holdOnly_2 (wpX1_holdOnly K) K t' li lj Q
      intro v e
      exact ih (i + 1) K t' _ (by omega) (by omega) hI' (by show v = _; rw [e, e3]; exact hs_inc i)
    show wbX1_holdOnly_1 (wpX1_holdOnly (K + 1)) (K + 1) t li lj Q
    have hin : vp_in (li 3) 64 := by rw [e3]; exact vp_in_nI (by omega) (by decide)
    refine ⟨fun _ => hQ t hI, fun _ => hz_isIn (by omega) ⟨fun _ => nx t hI, fun x => absurd x (by decide)⟩ ⟨fun x => absurd rfl x, fun _ => ⟨hin, fun t4 e4 => nx t4 ?_⟩⟩⟩
    rw [e4]; exact hx_same hI rfl rfl
theorem hz_holdOnly {t : XT} {z : Int32} {m K : Nat} {a : Int64} {Q : XT → Prop} (hI : hx_inv t z m) (hK : 200 ≤ K) (hQ : ∀ t', hx_inv t' z m → Q t') : wqX1_holdOnly K t a Q := by
  obtain ⟨K, rfl⟩ : ∃ K', K = K' + 1 := ⟨K - 1, by omega⟩
  exact hz_hold_go hQ 64 0 K t _ (by omega) (by omega) hI rfl
theorem hz_wd_go {t : XT} {Q : Int64 → XT → Prop} (h : ∀ v, Q v t) :
    ∀ (d i K : Nat) (li : Nat → Int32) (lj : Nat → Int64), i + d = 5 → 2 * d + 10 ≤ K → li 6 = nI i → wpX1_waysDown K 1 t li lj Q := by
  have two : ∀ (K : Nat) (li : Nat → Int32) (lj : Nat → Int64), 1 ≤ K → wpX1_waysDown K 2 t li lj Q := by
    intro K li lj hK
    obtain ⟨K, rfl⟩ : ∃ K', K = K' + 1 := ⟨K - 1, by omega⟩
    exact h _
  intro d
  induction d with
  | zero =>
    intro i K li lj hd hK e6
    obtain ⟨K, rfl⟩ : ∃ K', K = K' + 1 := ⟨K - 1, by omega⟩
    obtain rfl : i = 5 := by omega
    show wbX1_waysDown_1 (wpX1_waysDown K) K t li lj Q
    exact ⟨fun _ => two K li lj (by omega), fun x => absurd (show nI 5 ≤ li 6 by rw [e6]; exact nI_le (by omega) (by omega)) x⟩
  | succ d ih =>
    intro i K li lj hd hK e6
    obtain ⟨K, rfl⟩ : ∃ K', K = K' + 1 := ⟨K - 1, by omega⟩
    show wbX1_waysDown_1 (wpX1_waysDown K) K t li lj Q
    exact ⟨fun _ => two K li lj (by omega), fun _ v3 _ => ⟨fun _ => two K li lj (by omega), fun _ => hz_lowest (by omega) (fun j hj => ⟨vp_in_nI hj (by decide), fun v6 _ v7 _ v8 _ v9 _ v10 e10 => ih (i + 1) K _ _ (by omega) (by omega) (by show v10 = _; rw [e10, e6]; exact hs_inc i)⟩)⟩⟩
theorem hz_waysDown {t : XT} {k K : Nat} {Q : Int64 → XT → Prop} (hk : k < 64) (hK : 30 ≤ K) (h : ∀ v, Q v t) : wqX1_waysDown K t (nI k) Q := by
  obtain ⟨K, rfl⟩ : ∃ K', K = K' + 1 := ⟨K - 1, by omega⟩
  show wbX1_waysDown_0 (wpX1_waysDown K) K t (uI (fun _ => 0) 1 (nI k)) (fun _ => 0) Q
  exact hz_below hk (by omega) (fun v => hz_wd_go h 5 0 K _ _ (by omega) (by omega) rfl)
theorem hx_pin {v : Int32} {k : Nat} (h : hx_p v) (hk : k < 64) (lt : nI k < v) : ∃ p, p < 64 ∧ v = nI p :=
  hx_p_in h (fun q => by
    rw [q] at lt
    have w := Int32.lt_iff_toInt_lt.mp lt
    rw [nI_toInt (by omega)] at w
    have w : (k : Int) < -1 := w
    omega)
theorem hz_cw_go {z : Int32} {m s e : Nat} {lj : Nat → Int64} {Q : Int64 → XT → Prop} (hs : s < 64) (he : e < 64) (hQ : ∀ v t', hx_inv t' z m → Q v t') :
    ∀ (d i K : Nat) (t : XT) (li : Nat → Int32), i + d = 64 → 2 * d + 60 ≤ K → hx_inv t z m → li 1 = nI s → li 2 = nI e → li 3 = nI i → wpX1_countWays K 1 t li lj Q := by
  intro d
  induction d with
  | zero =>
    intro i K t li hd hK hI e1 e2 e3
    obtain ⟨K, rfl⟩ : ∃ K', K = K' + 1 := ⟨K - 1, by omega⟩
    obtain ⟨o, ho, eo⟩ := hI.2.2.2.1
    show wbX1_countWays_1 (wpX1_countWays K) K t li lj Q
    have hin : vp_in (li 1) 64 := by rw [e1]; exact vp_in_nI hs (by decide)
    exact ⟨fun _ => ⟨hin, fun v _ => hQ v t hI⟩, fun x => absurd (by rw [eo, e3]; exact nI_le (by omega) (by omega)) x⟩
  | succ d ih =>
    intro i K t li hd hK hI e1 e2 e3
    obtain ⟨K, rfl⟩ : ∃ K', K = K' + 2 := ⟨K - 2, by omega⟩
    have nx : ∀ (t' : XT) (li' : Nat → Int32), hx_inv t' z m → li' 1 = nI s → li' 2 = nI e → li' 3 = nI i → wpX1_countWays (K + 1) 2 t' li' lj Q := by
      intro t' li' hI' a1 a2 a3
      show wbX1_countWays_2 (wpX1_countWays K) K t' li' lj Q
      intro v ev
      exact ih (i + 1) K t' _ (by omega) (by omega) hI' a1 a2 (by show v = _; rw [ev, a3]; exact hs_inc i)
    obtain ⟨k, hk, ek⟩ := hI.2.2.2.2.2.2.2.2.1 i (by omega)
    have h1 : vp_in (li 1) 64 := by rw [e1]; exact vp_in_nI hs (by decide)
    have h2 : vp_in (li 2) 64 := by rw [e2]; exact vp_in_nI he (by decide)
    have hin := vp_in_nI (n := k) (N := 64) hk (by decide)
    show wbX1_countWays_1 (wpX1_countWays (K + 1)) (K + 1) t li lj Q
    refine ⟨fun _ => ⟨h1, fun v _ => hQ v t hI⟩, fun _ => ⟨by rw [e3]; exact vp_in_nI (by omega) (by decide), fun v5 f5 => ?_⟩⟩
    have f5 : v5 = nI k := by
      rw [f5, e3]
      exact (congrArg (t.2.2.1 7) (nI_clamp (by omega))).trans ek
    subst f5
    refine ⟨fun _ => ⟨hin, fun v7 _ => ⟨h1, fun v8 _ => ⟨fun _ => ⟨hin, fun v10 _ => ⟨h2, fun v11 _ => ⟨fun _ => nx t _ hI e1 e2 e3, fun _ => ⟨hin, fun v13 e13 => ⟨fun _ => nx t _ hI e1 e2 e3, fun lt => ?_⟩⟩⟩⟩⟩, fun _ => hz_waysDown hk (by omega) (fun r18 => ⟨hin, fun t19 e19 => nx t19 _ (by rw [e19]; exact hx_same hI rfl rfl) e1 e2 e3⟩)⟩⟩⟩, fun _ => ⟨hin, fun t20 e20 => nx t20 _ (by rw [e20]; exact hx_same hI rfl rfl) e1 e2 e3⟩⟩
    refine ⟨hin, fun v15 e15 => ?_⟩
    have e13 : v13 = t.2.2.1 5 k := e13.trans (congrArg (t.2.2.1 5) (nI_clamp (by omega)))
    have e15 : v15 = t.2.2.1 5 k := e15.trans (congrArg (t.2.2.1 5) (nI_clamp (by omega)))
    obtain ⟨p, hp, ep⟩ := hx_pin (by rw [e15]; exact hI.2.2.2.2.2.2.2.1 k hk : hx_p v15) hk (by rw [e15, ← e13]; exact Int32.not_le.mp lt)
    subst ep
    exact ⟨vp_in_nI hp (by decide), fun v16 _ => ⟨hin, fun t17 e17 => nx t17 _ (by rw [e17]; exact hx_same hI rfl rfl) e1 e2 e3⟩⟩
theorem hz_countWays {t : XT} {z : Int32} {m s e K : Nat} {Q : Int64 → XT → Prop} (hI : hx_inv t z m) (hs : s < 64) (he : e < 64) (hK : 310 ≤ K) (hQ : ∀ v t', hx_inv t' z m → Q v t') : wqX1_countWays K t (nI s) (nI e) Q := by
  obtain ⟨K, rfl⟩ : ∃ K', K = K' + 1 := ⟨K - 1, by omega⟩
  show wbX1_countWays_0 (wpX1_countWays K) K t (uI (uI (fun _ => 0) 1 (nI s)) 2 (nI e)) (fun _ => 0) Q
  refine hz_measure hI (by omega) (fun t1 h1 t2 e2 => hz_cw_go hs he hQ 64 0 K t2 _ (by omega) (by omega) ?_ rfl rfl rfl)
  rw [e2]; exact hx_same h1 rfl rfl
theorem hz_chosen_go {a : Nat → Int32} {b : Nat → Nat → Int32} {Q : Int32 → XT → Prop} (hQ : ∀ j t', j < 64 → t'.1 = a → t'.2.2.1 = b → Q (nI j) t') :
    ∀ (d i j K : Nat) (t : XT) (li : Nat → Int32) (lj : Nat → Int64), i + d = 5 → 2 * d + 10 ≤ K → j < 64 → t.1 = a → t.2.2.1 = b → li 4 = nI j → li 5 = nI i → wpX1_chosenFace K 1 t li lj Q := by
  have two : ∀ (j K : Nat) (t : XT) (li : Nat → Int32) (lj : Nat → Int64), 1 ≤ K → j < 64 → t.1 = a → t.2.2.1 = b → li 4 = nI j → wpX1_chosenFace K 2 t li lj Q := by
    intro j K t li lj hK hj ea eb e4
    obtain ⟨K, rfl⟩ : ∃ K', K = K' + 1 := ⟨K - 1, by omega⟩
    show Q (li 4) t
    rw [e4]; exact hQ j t hj ea eb
  intro d
  induction d with
  | zero =>
    intro i j K t li lj hd hK hj ea eb e4 e5
    obtain ⟨K, rfl⟩ : ∃ K', K = K' + 1 := ⟨K - 1, by omega⟩
    obtain rfl : i = 5 := by omega
    show wbX1_chosenFace_1 (wpX1_chosenFace K) K t li lj Q
    exact ⟨fun _ => two j K t li lj (by omega) hj ea eb e4, fun x => absurd (show nI 5 ≤ li 5 by rw [e5]; exact nI_le (by omega) (by omega)) x⟩
  | succ d ih =>
    intro i j K t li lj hd hK hj ea eb e4 e5
    obtain ⟨K, rfl⟩ : ∃ K', K = K' + 1 := ⟨K - 1, by omega⟩
    show wbX1_chosenFace_1 (wpX1_chosenFace K) K t li lj Q
    refine ⟨fun _ => two j K t li lj (by omega) hj ea eb e4, fun _ v4 _ => ⟨fun _ => two j K t li lj (by omega) hj ea eb e4, fun _ => hz_lowest (by omega) (fun r hr => ⟨vp_in_nI hr (by decide), fun v7 _ v8 _ => ⟨fun _ => ⟨vp_in_nI hr (by decide), fun v10 _ v11 _ t12 e12 v13 _ v14 _ v15 e15 => ?_⟩, fun _ => hQ r t hr ea eb⟩⟩)⟩⟩
    exact ih (i + 1) r K t12 _ _ (by omega) (by omega) hr (by rw [e12]; exact ea) (by rw [e12]; exact eb) rfl (by show v15 = _; rw [e15, e5]; exact hs_inc i)
theorem hz_chosenFace {t : XT} {k K : Nat} {Q : Int32 → XT → Prop} (hk : k < 64) (hK : 30 ≤ K) (hQ : ∀ j t', j < 64 → t'.1 = t.1 → t'.2.2.1 = t.2.2.1 → Q (nI j) t') : wqX1_chosenFace K t (nI k) Q := by
  obtain ⟨K, rfl⟩ : ∃ K', K = K' + 1 := ⟨K - 1, by omega⟩
  show wbX1_chosenFace_0 (wpX1_chosenFace K) K t (uI (fun _ => 0) 1 (nI k)) (fun _ => 0) Q
  exact hz_below hk (by omega) (fun v => hz_lowest (by omega) (fun j hj => hz_chosen_go (a := t.1) (b := t.2.2.1) hQ 5 0 j K t _ _ (by omega) (by omega) hj rfl rfl rfl rfl))
/-- the PATH that is written: its first n places are numbers below 64 -/
def hx_row (t : XT) (n : Nat) : Prop := ∀ i, i < n → ∃ j, j < 64 ∧ t.2.2.1 8 i = nI j
theorem hx_row_add {t : XT} {n j : Nat} (h : hx_row t n) (hj : j < 64) : hx_row (sA t 8 (upd (t.2.2.1 8) n (nI j))) (n + 1) := by
  intro i hi
  show ∃ k, k < 64 ∧ upd (t.2.2.1 8) n (nI j) i = nI k
  by_cases x : i = n
  · exact ⟨j, hj, if_pos x⟩
  · obtain ⟨k, k1, k2⟩ := h i (by omega)
    exact ⟨k, k1, (if_neg x).trans k2⟩
theorem hz_trace_go {z : Int32} {m : Nat} {b : Int32} {lj : Nat → Int64} {Q : Int32 → XT → Prop} (hQ : ∀ n t', 1 ≤ n → n < 64 → hx_inv t' z m → hx_row t' n → Q (nI n) t') :
    ∀ (d n k K : Nat) (t : XT) (li : Nat → Int32), n + d = 64 → 1 ≤ n → n < 64 → k < 64 → 3 * d + 60 ≤ K → hx_inv t z m → hx_row t n → li 2 = b → li 5 = nI n → li 6 = nI k → wpX1_trace K 1 t li lj Q := by
  intro d
  induction d using Nat.strongRecOn with
  | _ d ih =>
  intro n k K t li hd hn1 hn hk hK hI hR e2 e5 e6
  obtain ⟨K, rfl⟩ : ∃ K', K = K' + 2 := ⟨K - 2, by omega⟩
  have three : wpX1_trace (K + 1) 3 t li lj Q := by
    show Q (li 5) t
    rw [e5]; exact hQ n t hn1 hn hI hR
  have nx : ∀ (d' n' k' : Nat) (t' : XT) (li' : Nat → Int32), d' < d → n' + d' = 64 → 1 ≤ n' → n' < 64 → k' < 64 → hx_inv t' z m → hx_row t' n' → li' 2 = b → li' 5 = nI n' → li' 6 = nI k' → wpX1_trace (K + 1) 2 t' li' lj Q := by
    intro d' n' k' t' li' c0 c1 c2 c3 c4 c5 c6 c7 c8 c9
    show wpX1_trace K 1 t' li' lj Q
    exact ih d' c0 n' k' K t' li' c1 c2 c3 c4 (by omega) c5 c6 c7 c8 c9
  show wbX1_trace_1 (wpX1_trace (K + 1)) (K + 1) t li lj Q
  refine ⟨fun _ => three, fun _ v4 f4 => ⟨fun _ => three, fun lt => ?_⟩⟩
  have f4 : v4 = nI (n + 2) := by rw [f4, e5]; exact nI_add n 2
  have n62 : n + 2 < 64 := by
    refine Nat.lt_of_not_le (fun q => lt ?_)
    rw [f4]; exact nI_le (a := 64) q (by omega)
  rw [e6]
  refine hz_chosenFace hk (by omega) (fun j t6 hj a1 a2 => ⟨by rw [e5]; exact vp_in_nI hn (by decide), fun t7 e7 v8 e8 => ?_⟩)
  rw [e5, nI_clamp (by omega)] at e7
  have f8 : v8 = nI (n + 1) := by rw [e8, e5]; exact hs_inc n
  have I6 : hx_inv t6 z m := hx_same hI a1 a2
  have R6 : hx_row t6 n := by unfold hx_row; rw [a2]; exact hR
  have I7 : hx_inv t7 z m := by
    subst e7
    exact hx_frame I6 rfl rfl rfl rfl rfl rfl I6.2.2.2.2.2.2.2.1 rfl rfl
  have R7 : hx_row t7 (n + 1) := by rw [e7]; exact hx_row_add R6 hj
  have hin := vp_in_nI (n := j) (N := 64) hj (by decide)
  refine ⟨fun _ => nx (d - 1) (n + 1) j t7 _ (by omega) (by omega) (by omega) (by omega) hj I7 R7 e2 f8 rfl, fun _ => ⟨hin, fun v10 e10 => ⟨fun _ => nx (d - 1) (n + 1) j t7 _ (by omega) (by omega) (by omega) (by omega) hj I7 R7 e2 f8 rfl, fun ne => ⟨hin, fun v12 e12 => ?_⟩⟩⟩⟩
  have e10 : v10 = t7.2.2.1 5 j := e10.trans (congrArg (t7.2.2.1 5) (nI_clamp (by omega)))
  have e12 : v12 = t7.2.2.1 5 j := e12.trans (congrArg (t7.2.2.1 5) (nI_clamp (by omega)))
  obtain ⟨p, hp, ep⟩ := hx_p_in (by rw [e12]; exact I7.2.2.2.2.2.2.2.1 j hj : hx_p v12) (fun q => ne (e10.trans (e12.symm.trans q)))
  subst ep
  refine ⟨by rw [f8]; exact vp_in_nI (by omega) (by decide), fun t13 e13 v14 e14 => ?_⟩
  rw [f8, nI_clamp (by omega)] at e13
  refine nx (d - 2) (n + 2) p t13 _ (by omega) (by omega) (by omega) (by omega) hp ?_ ?_ e2 (by show v14 = _; rw [e14, f8]; exact hs_inc (n + 1)) rfl
  · subst e13
    exact hx_frame I7 rfl rfl rfl rfl rfl rfl I7.2.2.2.2.2.2.2.1 rfl rfl
  · rw [e13]; exact hx_row_add R7 hp
theorem hz_trace {t : XT} {z : Int32} {m s K : Nat} {b : Int32} {v : Int64} {Q : Int32 → XT → Prop} (hI : hx_inv t z m) (hs : s < 64) (hK : 300 ≤ K) (hQ : ∀ n t', 1 ≤ n → n < 64 → hx_inv t' z m → hx_row t' n → Q (nI n) t') : wqX1_trace K t (nI s) b v Q := by
  obtain ⟨K, rfl⟩ : ∃ K', K = K' + 1 := ⟨K - 1, by omega⟩
  show wbX1_trace_0 (wpX1_trace K) K t (uI (uI (fun _ => 0) 1 (nI s)) 2 b) (uI (fun _ => 0) 3 v) Q
  intro t1 e1
  have I1 : hx_inv t1 z m := by rw [e1]; exact hx_same hI rfl rfl
  refine ⟨(show vp_in (nI 0) 64 from vp_in_nI (by omega) (by decide)), fun t2 e2 => ?_⟩
  have c0 : (0 : Int32).toNatClampNeg = 0 := by decide
  rw [c0] at e2
  refine hz_trace_go (b := b) hQ 63 1 s K t2 _ (by omega) (by omega) (by omega) hs (by omega) ?_ ?_ rfl rfl rfl
  · subst e2
    exact hx_frame I1 rfl rfl rfl rfl rfl rfl I1.2.2.2.2.2.2.2.1 rfl rfl
  · rw [e2]
    exact hx_row_add (n := 0) (fun i hi => absurd hi (by omega)) hs
theorem hz_paths {t : XT} {z : Int32} {m K : Nat} {a b : Int32} {Q : Int64 → XT → Prop} (hI : hx_inv t z m) (hK : 400 ≤ K) (hQ : ∀ r t', hx_inv t' z m → Q r t') : wqX11_paths K t a b Q := by
  obtain ⟨K, rfl⟩ : ∃ K', K = K' + 1 := ⟨K - 1, by omega⟩
  have m60 := hI.2.2.1
  show wbX11_paths_0 (wpX11_paths K) K t (uI (uI (fun _ => 0) 1 a) 2 b) (fun _ => 0) Q
  refine hz_areEnds hI (by omega) (fun s e hs he ea eb => ⟨fun _ => ?_, fun x => absurd x (by decide)⟩) ⟨fun x => absurd rfl x, fun _ => hQ _ t hI⟩
  have ea : a = nI s := ea
  have eb : b = nI e := eb
  subst ea
  subst eb
  exact hz_countWays hI (by omega) (by omega) (by omega) (fun v t1 h1 => hQ v t1 h1)
theorem hz_ix {a : Int32} {n : Nat} (hn : n ≤ 64) (h1 : (-1 : Int32) ≤ a) (h2 : ¬ a = -1) (h3 : ¬ nI n ≤ a) : vp_in a 64 := by
  have h1 := Int32.le_iff_toInt_le.mp h1
  have h1 : (-1 : Int) ≤ a.toInt := h1
  have h2 : a.toInt ≠ -1 := fun q => h2 (Int32.toInt_inj.mp q)
  have h3 := Int32.lt_iff_toInt_lt.mp (Int32.not_le.mp h3)
  rw [nI_toInt (by omega)] at h3
  exact vp_in_iff.mpr ⟨by omega, by omega⟩
theorem hz_path {t : XT} {z : Int32} {m K : Nat} {a b c d : Int32} {Q : Int32 → XT → Prop} (hI : hx_inv t z m) (hK : 400 ≤ K) (hQ : ∀ r t', hx_inv t' z m → Q r t') : wqX11_path K t a b c d Q := by
  obtain ⟨K, rfl⟩ : ∃ K', K = K' + 2 := ⟨K - 2, by omega⟩
  have m60 := hI.2.2.1
  have out : wpX11_path (K + 1) 1 t (uI (uI (uI (uI (fun _ => 0) 1 a) 2 b) 3 c) 4 d) (fun _ => 0) Q := hQ _ t hI
  show wbX11_path_0 (wpX11_path (K + 1)) (K + 1) t (uI (uI (uI (uI (fun _ => 0) 1 a) 2 b) 3 c) 4 d) (fun _ => 0) Q
  refine hz_areEnds hI (by omega) (fun s e hs he ea eb => ⟨fun x => absurd x (by decide), fun _ => ⟨fun _ => out, fun _ => ⟨fun h1 v5 _ => ?_, fun _ => out⟩⟩⟩) ⟨fun _ => out, fun x => absurd rfl x⟩
  have ea : a = nI s := ea
  have eb : b = nI e := eb
  subst ea
  subst eb
  refine hz_countWays hI (by omega) (by omega) (by omega) (fun v t1 I1 v7 _ => ⟨fun _ v9 _ => hz_trace I1 (by omega) (by omega) (fun n t2 n1 n2 I2 _ => ⟨fun h2 => ⟨fun _ => hQ _ t2 I2, fun h3 => ⟨hz_ix (by omega) h1 h2 h3, fun v13 _ => hQ _ t2 I2⟩⟩, fun _ => hQ _ t2 I2⟩), fun _ => hQ _ t1 I1⟩)
theorem hz_through {t : XT} {z : Int32} {m K : Nat} {a b c : Int32} {Q : Int64 → XT → Prop} (hI : hx_inv t z m) (hK : 500 ≤ K) (hQ : ∀ r t', hx_inv t' z m → Q r t') : wqX11_through K t a b c Q := by
  obtain ⟨K, rfl⟩ : ∃ K', K = K' + 2 := ⟨K - 2, by omega⟩
  have m60 := hI.2.2.1
  have out : wpX11_through (K + 1) 1 t (uI (uI (uI (fun _ => 0) 1 a) 2 b) 3 c) (fun _ => 0) Q := hQ _ t hI
  show wbX11_through_0 (wpX11_through (K + 1)) (K + 1) t (uI (uI (uI (fun _ => 0) 1 a) 2 b) 3 c) (fun _ => 0) Q
  refine hz_areEnds hI (by omega) (fun s e hs he ea eb => ⟨fun x => absurd x (by decide), fun _ => ?_⟩) ⟨fun _ => out, fun x => absurd rfl x⟩
  have ea : a = nI s := ea
  have eb : b = nI e := eb
  subst ea
  subst eb
  refine hz_isThere hI (by omega) (fun k hk ec => ⟨fun _ => ?_, fun x => absurd x (by decide)⟩) ⟨fun x => absurd rfl x, fun _ => out⟩
  have ec : c = nI k := ec
  subst ec
  have hin := vp_in_nI (n := k) (N := 64) (by omega) (by decide)
  exact hz_start hI (by omega) (by omega) (fun t5 h5 => ⟨vp_in_nI (n := s) (by omega) (by decide), fun v6 _ => hz_pour h5 (by omega) (fun t7 h7 => hz_countWays h7 (by omega) (by omega) (by omega) (fun v t8 h8 => ⟨hin, fun v9 _ => ⟨hin, fun v10 _ v11 _ => hQ v11 t8 h8⟩⟩))⟩)
theorem hz_divide8 {t : XT} {z : Int32} {m n k K : Nat} {Q : XT → Prop} (hI : hx_inv t z m) (hR : hx_row t n) (hk : k < 64) (hK : 2 ≤ K) (h : ∀ t', hx_inv t' z m → hx_row t' n → Q t') : wqX6_divide K t (nI k) Q := by
  obtain ⟨K, rfl⟩ : ∃ K', K = K' + 1 := ⟨K - 1, by omega⟩
  have r5 := hI.2.2.2.2.2.2.2.1
  show wbX6_divide_0 (wpX6_divide K) K t (uI (fun _ => 0) 1 (nI k)) (fun _ => 0) Q
  refine ⟨vp_in_nI hk (by decide), fun v1 e1 => ⟨fun ne => ⟨vp_in_nI hk (by decide), fun t3 e3 => ?_⟩, fun _ => h t hI hR⟩⟩
  have e1 : v1 = t.2.2.1 5 k := e1.trans (congrArg (t.2.2.1 5) (nI_clamp (by omega)))
  obtain ⟨p, hp, ep⟩ := hx_p_in (by rw [e1]; exact r5 k hk : hx_p v1) ne
  subst ep
  refine ⟨vp_in_nI hp (by decide), fun t4 e4 => hz_bit (by omega) (fun v5 => hz_bit (by omega) (fun v6 v7 _ v8 _ v9 _ t10 e10 v11 _ t12 e12 v13 _ t14 e14 => ?_))⟩
  refine h t14 ?_ ?_
  · subst e14 e12 e10 e4 e3
    refine hx_frame hI rfl rfl rfl rfl rfl rfl ?_ rfl rfl
    exact hx_upd (hx_upd r5 (Or.inl rfl)) (Or.inl rfl)
  · subst e14 e12 e10 e4 e3
    exact hR
theorem hz_unite8 {t : XT} {z : Int32} {m n f s K : Nat} {Q : XT → Prop} (hI : hx_inv t z m) (hR : hx_row t n) (hf : f < 64) (hs : s < 64) (hK : 2 ≤ K) (h : ∀ t', hx_inv t' z m → hx_row t' n → Q t') : wqX6_unite K t (nI f) (nI s) Q := by
  obtain ⟨K, rfl⟩ : ∃ K', K = K' + 1 := ⟨K - 1, by omega⟩
  show wbX6_unite_0 (wpX6_unite K) K t (uI (uI (fun _ => 0) 1 (nI f)) 2 (nI s)) (fun _ => 0) Q
  refine ⟨vp_in_nI hf (by decide), fun t1 e1 => ⟨vp_in_nI hs (by decide), fun t2 e2 => hz_bit (by omega) (fun v3 v4 _ t5 e5 => hz_bit (by omega) (fun v6 v7 _ t8 e8 v9 _ t10 e10 => ?_))⟩⟩
  refine h t10 ?_ ?_
  · subst e10 e8 e5 e2 e1
    refine hx_frame hI rfl rfl rfl rfl rfl rfl ?_ rfl rfl
    exact hx_upd (hx_upd hI.2.2.2.2.2.2.2.1 (Or.inr ⟨s, hs, rfl⟩)) (Or.inr ⟨f, hf, rfl⟩)
  · subst e10 e8 e5 e2 e1
    exact hR
theorem hz_cancel2 {z : Int32} {m n : Nat} {lj : Nat → Int64} {Q : Int32 → XT → Prop} (hn : n < 64) (hQ : ∀ r t', hx_inv t' z m → Q r t') :
    ∀ (d i K : Nat) (t : XT) (li : Nat → Int32), i + d = 70 → d + 10 ≤ K → hx_inv t z m → hx_row t n → li 3 = nI n → li 4 = nI (i + 1) → wpX11_cancel K 2 t li lj Q := by
  intro d
  induction d using Nat.strongRecOn with
  | _ d ih =>
  intro i K t li hd hK hI hR e3 e4
  obtain ⟨K, rfl⟩ : ∃ K', K = K' + 1 := ⟨K - 1, by omega⟩
  show wbX11_cancel_2 (wpX11_cancel K) K t li lj Q
  unfold wbX11_cancel_2
  rw [e3, e4]
  refine ⟨fun _ => hz_criticalOnes (by omega) (fun r => hQ r t hI), fun lt => ?_⟩
  have lt : i + 1 < n := Nat.lt_of_not_le (fun q => lt (nI_le q (by omega)))
  refine ⟨vp_in_nI (by omega) (by decide), fun v15 e15 v16 e16 => ?_⟩
  have e16 : v16 = nI i := e16.trans (nI_pred i)
  subst e16
  refine ⟨vp_in_nI (by omega) (by decide), fun v17 e17 => ?_⟩
  rw [nI_clamp (by omega)] at e15 e17
  obtain ⟨f, hf, ef⟩ := hR (i + 1) lt
  obtain ⟨s, hs, es⟩ := hR i (by omega)
  rw [ef] at e15
  rw [es] at e17
  subst e15 e17
  exact hz_unite8 hI hR hf hs (by omega) (fun t18 h18 r18 v19 e19 => ih (d - 2) (by omega) (i + 2) K t18 _ (by omega) (by omega) h18 r18 e3 (by show v19 = _; rw [e19]; exact nI_add (i + 1) 2))
theorem hz_cancel1 {z : Int32} {m n : Nat} {lj : Nat → Int64} {Q : Int32 → XT → Prop} (hn : n < 64) (hQ : ∀ r t', hx_inv t' z m → Q r t') :
    ∀ (d i K : Nat) (t : XT) (li : Nat → Int32), i + d = 70 → d + 100 ≤ K → hx_inv t z m → hx_row t n → li 3 = nI n → li 4 = nI i → wpX11_cancel K 1 t li lj Q := by
  intro d
  induction d using Nat.strongRecOn with
  | _ d ih =>
  intro i K t li hd hK hI hR e3 e4
  obtain ⟨K, rfl⟩ : ∃ K', K = K' + 1 := ⟨K - 1, by omega⟩
  show wbX11_cancel_1 (wpX11_cancel K) K t li lj Q
  intro v8 e8
  have e8 : v8 = nI (i + 1) := by rw [e8, e4]; exact nI_1 i
  subst e8
  refine ⟨fun _ => hz_cancel2 hn hQ 70 0 K t _ (by omega) (by omega) hI hR e3 rfl, fun lt => ?_⟩
  rw [e3] at lt
  have lt : i + 1 < n := Nat.lt_of_not_le (fun q => lt (nI_le q (by omega)))
  refine ⟨by rw [e4]; exact vp_in_nI (by omega) (by decide), fun v10 e10 => ?_⟩
  obtain ⟨f, hf, ef⟩ := hR i (by omega)
  rw [e4, nI_clamp (by omega), ef] at e10
  subst e10
  exact hz_divide8 hI hR hf (by omega) (fun t11 h11 r11 v12 e12 => ih (d - 2) (by omega) (i + 2) K t11 _ (by omega) (by omega) h11 r11 e3 (by show v12 = _; rw [e12, e4]; exact nI_add i 2))
theorem hz_cancel {t : XT} {z : Int32} {m K : Nat} {a b : Int32} {Q : Int32 → XT → Prop} (hI : hx_inv t z m) (hK : 500 ≤ K) (hQ : ∀ r t', hx_inv t' z m → Q r t') : wqX11_cancel K t a b Q := by
  obtain ⟨K, rfl⟩ : ∃ K', K = K' + 1 := ⟨K - 1, by omega⟩
  have m60 := hI.2.2.1
  show wbX11_cancel_0 (wpX11_cancel K) K t (uI (uI (fun _ => 0) 1 a) 2 b) (fun _ => 0) Q
  refine hz_areEnds hI (by omega) (fun s e hs he ea eb => ⟨fun _ => ?_, fun x => absurd x (by decide)⟩) ⟨fun x => absurd rfl x, fun _ => hQ _ t hI⟩
  have ea : a = nI s := ea
  have eb : b = nI e := eb
  subst ea
  subst eb
  refine hz_countWays hI (by omega) (by omega) (by omega) (fun v t3 h3 v4 _ => ⟨fun _ => ?_, fun _ => hQ _ t3 h3⟩)
  refine hz_save h3 (by omega) (fun t6 h6 => hz_trace h6 (by omega) (by omega) (fun n t7 n1 n2 h7 r7 => ?_))
  exact hz_cancel1 n2 hQ 69 1 K t7 _ (by omega) (by omega) h7 r7 rfl rfl
theorem hz_sqf_go {t : XT} {z : Int32} {m : Nat} {lj : Nat → Int64} {Q : Int32 → XT → Prop} (hI : hx_inv t z m) (h : ∀ r, Q r t) :
    ∀ (d i K : Nat) (li : Nat → Int32), i + d = m → 2 * d + 10 ≤ K → li 8 = nI i → wpX11_squaresFrom K 1 t li lj Q := by
  have m60 := hI.2.2.1
  intro d
  induction d with
  | zero =>
    intro i K li hd hK e8
    obtain ⟨K, rfl⟩ : ∃ K', K = K' + 1 := ⟨K - 1, by omega⟩
    show wbX11_squaresFrom_1 (wpX11_squaresFrom K) K t li lj Q
    exact ⟨fun _ => h _, fun x => absurd (by rw [hI.2.1, e8]; exact nI_le (by omega) (by omega)) x⟩
  | succ d ih =>
    intro i K li hd hK e8
    obtain ⟨K, rfl⟩ : ∃ K', K = K' + 2 := ⟨K - 2, by omega⟩
    have nx : ∀ li' : Nat → Int32, li' 8 = nI i → wpX11_squaresFrom (K + 1) 2 t li' lj Q := by
      intro li' a8
      show wbX11_squaresFrom_2 (wpX11_squaresFrom K) K t li' lj Q
      intro v e
      exact ih (i + 1) K _ (by omega) (by omega) (by show v = _; rw [e, a8]; exact hs_inc i)
    show wbX11_squaresFrom_1 (wpX11_squaresFrom (K + 1)) (K + 1) t li lj Q
    have hin : vp_in (li 8) 64 := by rw [e8]; exact vp_in_nI (by omega) (by decide)
    exact ⟨fun _ => h _, fun _ => hz_isIn (by omega) ⟨fun x => absurd x (by decide), fun _ => ⟨hin, fun v19 _ v20 _ => ⟨fun _ => nx li e8, fun _ v22 _ => nx _ e8⟩⟩⟩ ⟨fun _ => nx li e8, fun x => absurd rfl x⟩⟩
theorem hz_m2 : ∀ d, d < 4 → nI (d + 2) - 2 = nI d := by decide +kernel
theorem hz_squaresFrom {t : XT} {z : Int32} {m k K : Nat} {Q : Int32 → XT → Prop} (hI : hx_inv t z m) (hk : k < 64) (hK : 600 ≤ K) (hQ : ∀ r t', hx_inv t' z m → Q r t') : wqX11_squaresFrom K t (nI k) Q := by
  obtain ⟨K, rfl⟩ : ∃ K', K = K' + 1 := ⟨K - 1, by omega⟩
  have m60 := hI.2.2.1
  show wbX11_squaresFrom_0 (wpX11_squaresFrom K) K t (uI (fun _ => 0) 1 (nI k)) (fun _ => 0) Q
  refine ⟨vp_in_nI hk (by decide), fun v1 e1 => ⟨fun ge => ?_, fun _ => hQ _ t hI⟩⟩
  have e1 : v1 = t.2.2.1 3 k := e1.trans (congrArg (t.2.2.1 3) (nI_clamp (by omega)))
  obtain ⟨d, hd, ed⟩ := hI.2.2.2.2.2.1 k hk
  rw [ed] at e1
  subst e1
  have d2 : 2 ≤ d := (nI_leI (a := 2) (by omega) (by omega)).mp ge
  obtain ⟨d, rfl⟩ : ∃ d', d = d' + 2 := ⟨d - 2, by omega⟩
  refine hz_unpaired (by omega) (fun v3 v4 e4 => ?_)
  have e4 : v4 = nI (d + 1) := e4.trans (nI_pred (d + 1))
  subst e4
  refine ⟨vp_in_nI (by omega) (by decide), fun v5 _ v6 _ => hz_unpaired (by omega) (fun v7 v8 e8 => ?_)⟩
  have e8 : v8 = nI d := e8.trans (hz_m2 d (by omega))
  subst e8
  refine ⟨vp_in_nI (by omega) (by decide), fun v9 _ v10 _ => ?_⟩
  exact hz_start hI hk (by omega) (fun t11 h11 => hz_pour h11 (by omega) (fun t12 h12 => hz_holdOnly h12 (by omega) (fun t13 h13 v14 _ => hz_pour h13 (by omega) (fun t15 h15 => hz_sqf_go h15 (fun r => hQ r t15 h15) m 0 K _ (by omega) (by omega) rfl))))
theorem hz_sq_go {z : Int32} {m : Nat} {lj : Nat → Int64} {Q : Int32 → XT → Prop} (hQ : ∀ r t', hx_inv t' z m → Q r t') :
    ∀ (d i K : Nat) (t : XT) (li : Nat → Int32), i + d = m → 2 * d + 700 ≤ K → hx_inv t z m → li 4 = nI i → wpX11_squares K 1 t li lj Q := by
  intro d
  induction d with
  | zero =>
    intro i K t li hd hK hI e4
    have m60 := hI.2.2.1
    obtain ⟨K, rfl⟩ : ∃ K', K = K' + 1 := ⟨K - 1, by omega⟩
    show wbX11_squares_1 (wpX11_squares K) K t li lj Q
    exact ⟨fun _ => hQ _ t hI, fun x => absurd (by rw [hI.2.1, e4]; exact nI_le (by omega) (by omega)) x⟩
  | succ d ih =>
    intro i K t li hd hK hI e4
    have m60 := hI.2.2.1
    obtain ⟨K, rfl⟩ : ∃ K', K = K' + 2 := ⟨K - 2, by omega⟩
    have nx : ∀ (t' : XT) (li' : Nat → Int32), hx_inv t' z m → li' 4 = nI i → wpX11_squares (K + 1) 2 t' li' lj Q := by
      intro t' li' hI' a4
      show wbX11_squares_2 (wpX11_squares K) K t' li' lj Q
      intro v e
      exact ih (i + 1) K t' _ (by omega) (by omega) hI' (by show v = _; rw [e, a4]; exact hs_inc i)
    show wbX11_squares_1 (wpX11_squares (K + 1)) (K + 1) t li lj Q
    have hin : vp_in (li 4) 64 := by rw [e4]; exact vp_in_nI (by omega) (by decide)
    refine ⟨fun _ => hQ _ t hI, fun _ => hz_isIn (by omega) ⟨fun x => absurd x (by decide), fun _ => ⟨hin, fun v5 _ => ⟨fun _ => nx t li hI e4, fun _ => ?_⟩⟩⟩ ⟨fun _ => nx t li hI e4, fun x => absurd rfl x⟩⟩
    rw [e4]
    exact hz_squaresFrom hI (by omega) (by omega) (fun r t7 h7 v8 _ => nx t7 _ h7 e4)
theorem hz_squares {t : XT} {z : Int32} {m K : Nat} {Q : Int32 → XT → Prop} (hI : hx_inv t z m) (hK : 1000 ≤ K) (hQ : ∀ r t', hx_inv t' z m → Q r t') : wqX11_squares K t Q := by
  obtain ⟨K, rfl⟩ : ∃ K', K = K' + 1 := ⟨K - 1, by omega⟩
  have m60 := hI.2.2.1
  show wbX11_squares_0 (wpX11_squares K) K t (fun _ => 0) (fun _ => 0) Q
  exact hz_unpaired (by omega) (fun v => hz_sq_go hQ m 0 K t _ (by omega) (by omega) hI rfl)
theorem hz_root_go {t : XT} {z : Int32} {m : Nat} {lj : Nat → Int64} {Q : Int32 → XT → Prop} (hI : hx_inv t z m) (h : ∀ r, Q r t) :
    ∀ (d i k K : Nat) (li : Nat → Int32), i + d = 60 → 2 * d + 10 ≤ K → k < 64 → li 3 = nI k → li 5 = nI i → wpX11_root K 2 t li lj Q := by
  have three : ∀ (K : Nat) (li : Nat → Int32), 1 ≤ K → wpX11_root K 3 t li lj Q := by
    intro K li hK
    obtain ⟨K, rfl⟩ : ∃ K', K = K' + 1 := ⟨K - 1, by omega⟩
    exact ⟨fun _ => h _, fun _ => h _⟩
  intro d
  induction d with
  | zero =>
    intro i k K li hd hK hk e3 e5
    obtain ⟨K, rfl⟩ : ∃ K', K = K' + 1 := ⟨K - 1, by omega⟩
    obtain rfl : i = 60 := by omega
    show wbX11_root_2 (wpX11_root K) K t li lj Q
    exact ⟨fun _ => three K li (by omega), fun x => absurd (show nI 60 ≤ li 5 by rw [e5]; exact nI_le (by omega) (by omega)) x⟩
  | succ d ih =>
    intro i k K li hd hK hk e3 e5
    obtain ⟨K, rfl⟩ : ∃ K', K = K' + 1 := ⟨K - 1, by omega⟩
    show wbX11_root_2 (wpX11_root K) K t li lj Q
    have hin : vp_in (li 3) 64 := by rw [e3]; exact vp_in_nI hk (by decide)
    refine ⟨fun _ => three K li (by omega), fun _ => ⟨hin, fun v8 e8 => ⟨fun _ => three K li (by omega), fun ne => ⟨hin, fun v10 e10 => ?_⟩⟩⟩⟩
    have e8 : v8 = t.2.2.1 5 k := by rw [e8, e3]; exact congrArg (t.2.2.1 5) (nI_clamp (by omega))
    have e10 : v10 = t.2.2.1 5 k := by rw [e10, e3]; exact congrArg (t.2.2.1 5) (nI_clamp (by omega))
    obtain ⟨p, hp, ep⟩ := hx_p_in (by rw [e10]; exact hI.2.2.2.2.2.2.2.1 k hk : hx_p v10) (fun q => ne (e8.trans (e10.symm.trans q)))
    subst ep
    refine ⟨vp_in_nI hp (by decide), fun v11 _ => hz_bit (by omega) (fun v12 v13 _ v14 _ => hz_lowest (by omega) (fun j hj v16 _ v17 e17 => ?_))⟩
    exact ih (i + 1) j K _ (by omega) (by omega) hj rfl (by show v17 = _; rw [e17, e5]; exact hs_inc i)
theorem hz_root {t : XT} {z : Int32} {m K : Nat} {a b : Int32} {Q : Int32 → XT → Prop} (hI : hx_inv t z m) (hK : 200 ≤ K) (h : ∀ r, Q r t) : wqX11_root K t a b Q := by
  obtain ⟨K, rfl⟩ : ∃ K', K = K' + 2 := ⟨K - 2, by omega⟩
  have m60 := hI.2.2.1
  have out : wpX11_root (K + 1) 1 t (uI (uI (fun _ => 0) 1 a) 2 b) (fun _ => 0) Q := h _
  show wbX11_root_0 (wpX11_root (K + 1)) (K + 1) t (uI (uI (fun _ => 0) 1 a) 2 b) (fun _ => 0) Q
  refine hz_isThere hI (by omega) (fun k hk ea => ⟨fun x => absurd x (by decide), fun _ => ?_⟩) ⟨fun _ => out, fun x => absurd rfl x⟩
  have ea : a = nI k := ea
  subst ea
  exact ⟨vp_in_nI (n := k) (by omega) (by decide), fun v3 _ => ⟨fun _ => out, fun _ => ⟨fun _ => out, fun _ => ⟨fun _ => hz_root_go hI h 60 0 k (K + 1) _ (by omega) (by omega) (by omega) rfl rfl, fun _ => out⟩⟩⟩⟩
theorem hz_lk_go {t : XT} {z : Int32} {m k : Nat} {Q : Int64 → XT → Prop} (hI : hx_inv t z m) (hk : k < 64) (h : ∀ r, Q r t) :
    ∀ (d i K : Nat) (li : Nat → Int32) (lj : Nat → Int64), i + d = m → 4 * d + 20 ≤ K → li 1 = nI k → li 4 = nI i → wpX11_linkOf K 1 t li lj Q := by
  have m60 := hI.2.2.1
  intro d
  induction d with
  | zero =>
    intro i K li lj hd hK e1 e4
    obtain ⟨K, rfl⟩ : ∃ K', K = K' + 1 := ⟨K - 1, by omega⟩
    show wbX11_linkOf_1 (wpX11_linkOf K) K t li lj Q
    exact ⟨fun _ => h _, fun x => absurd (by rw [hI.2.1, e4]; exact nI_le (by omega) (by omega)) x⟩
  | succ d ih =>
    intro i K li lj hd hK e1 e4
    obtain ⟨K, rfl⟩ : ∃ K', K = K' + 3 := ⟨K - 3, by omega⟩
    have three : ∀ (li' : Nat → Int32) (lj' : Nat → Int64), li' 1 = nI k → li' 4 = nI i → wpX11_linkOf (K + 1) 3 t li' lj' Q := by
      intro li' lj' a1 a4
      show wbX11_linkOf_3 (wpX11_linkOf K) K t li' lj' Q
      intro v e
      exact ih (i + 1) K _ _ (by omega) (by omega) a1 (by show v = _; rw [e, a4]; exact hs_inc i)
    have two : ∀ (li' : Nat → Int32) (lj' : Nat → Int64), li' 1 = nI k → li' 4 = nI i → wpX11_linkOf (K + 2) 2 t li' lj' Q := by
      intro li' lj' a1 a4
      show wbX11_linkOf_2 (wpX11_linkOf (K + 1)) (K + 1) t li' lj' Q
      refine hz_number (by omega) (fun r9 => ⟨fun _ => three _ _ a1 a4, fun _ => ?_⟩)
      refine hz_isThere hI (by omega) (fun _ _ _ => ⟨fun _ => three _ _ a1 a4, fun _ => ?_⟩) ⟨fun _ => three _ _ a1 a4, fun x => absurd rfl x⟩
      refine hz_isThere hI (by omega) (fun _ _ _ => ⟨fun _ => three _ _ a1 a4, fun _ => ?_⟩) ⟨fun _ => three _ _ a1 a4, fun x => absurd rfl x⟩
      exact hz_bit (by omega) (fun r15 v16 _ => three _ _ a1 a4)
    show wbX11_linkOf_1 (wpX11_linkOf (K + 2)) (K + 2) t li lj Q
    have i1 : vp_in (li 1) 64 := by rw [e1]; exact vp_in_nI hk (by decide)
    have i4 : vp_in (li 4) 64 := by rw [e4]; exact vp_in_nI (by omega) (by decide)
    exact ⟨fun _ => h _, fun _ => ⟨i1, fun v2 _ => ⟨i4, fun v3 _ v4 _ => ⟨i1, fun v5 _ => ⟨i4, fun v6 _ v7 _ => ⟨fun _ => two _ _ e1 e4, fun _ => two _ _ e1 e4⟩⟩⟩⟩⟩⟩
theorem hz_linkOf {t : XT} {z : Int32} {m k K : Nat} {Q : Int64 → XT → Prop} (hI : hx_inv t z m) (hk : k < 64) (hK : 300 ≤ K) (h : ∀ r, Q r t) : wqX11_linkOf K t (nI k) Q := by
  obtain ⟨K, rfl⟩ : ∃ K', K = K' + 1 := ⟨K - 1, by omega⟩
  have m60 := hI.2.2.1
  exact hz_lk_go hI hk h m 0 K _ _ (by omega) (by omega) rfl rfl
theorem hz_link {t : XT} {z : Int32} {m K : Nat} {a b : Int32} {Q : Int32 → XT → Prop} (hI : hx_inv t z m) (hK : 400 ≤ K) (h : ∀ r, Q r t) : wqX11_link K t a b Q := by
  obtain ⟨K, rfl⟩ : ∃ K', K = K' + 2 := ⟨K - 2, by omega⟩
  have m60 := hI.2.2.1
  have out : wpX11_link (K + 1) 1 t (uI (uI (fun _ => 0) 1 a) 2 b) (fun _ => 0) Q := h _
  show wbX11_link_0 (wpX11_link (K + 1)) (K + 1) t (uI (uI (fun _ => 0) 1 a) 2 b) (fun _ => 0) Q
  refine hz_isThere hI (by omega) (fun k hk ea => ⟨fun x => absurd x (by decide), fun _ => ?_⟩) ⟨fun _ => out, fun x => absurd rfl x⟩
  have ea : a = nI k := ea
  subst ea
  exact ⟨fun _ => out, fun _ => ⟨fun _ => hz_linkOf hI (by omega) (by omega) (fun v => ⟨fun _ => hz_eulerOf (by omega) h, fun _ => hz_bc64 (by omega) (fun j _ => h _)⟩), fun _ => out⟩⟩
