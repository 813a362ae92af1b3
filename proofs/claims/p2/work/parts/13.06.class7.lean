/-! ===== the class, pure: DRAWS, count, tables and their ranks; drawn, betti, slack, levelBetti ===== -/
theorem hz_rem_lt {x a : Int32} (ha : 0 < a.toInt) : (x - x / a * a).toInt < a.toInt := by
  rcases Int.lt_or_le x.toInt 0 with neg | pos
  · have b1 := Int32.le_toInt x
    obtain ⟨n, hn⟩ : ∃ n : Int, n = -x.toInt := ⟨_, rfl⟩
    have xe : x.toInt = -n := by omega
    have q0 : 0 ≤ n / a.toInt := Int.ediv_nonneg (by omega) (Int.le_of_lt ha)
    have q1 : n / a.toInt ≤ n := Int.ediv_le_self _ (by omega)
    have q2 : n / a.toInt * a.toInt ≤ n := Int.ediv_mul_le _ (by omega)
    have q3 : 0 ≤ n / a.toInt * a.toInt := Int.mul_nonneg q0 (Int.le_of_lt ha)
    have e1 : (x / a).toInt = -(n / a.toInt) := by
      rw [Int32.toInt_div, xe, Int.neg_tdiv, Int.tdiv_eq_ediv_of_nonneg (by omega)]
      exact Int.bmod_eq_of_le (by omega) (by omega)
    have e2 : (x / a * a).toInt = -(n / a.toInt * a.toInt) := by
      rw [Int32.toInt_mul, e1, Int.neg_mul]; exact Int.bmod_eq_of_le (by omega) (by omega)
    rw [Int32.toInt_sub, e2, xe, Int.bmod_eq_of_le (by omega) (by omega)]
    omega
  · rw [hq_rem32 pos ha]
    exact Int.emod_lt_of_pos _ ha
theorem hz_drawFrom {t : XT} {z : Int32} {m K : Nat} {a : Int64} {Q : Int32 → XT → Prop} (hI : hx_inv t z m) (hK : 210 ≤ K) (hQ : ∀ j t', j < 64 → hx_inv t' z m → Q (nI j) t') : wqX11_drawFrom K t a Q := by
  obtain ⟨K, rfl⟩ : ∃ K', K = K' + 1 := ⟨K - 1, by omega⟩
  show wbX11_drawFrom_0 (wpX11_drawFrom K) K t (fun _ => 0) (uI (fun _ => 0) 1 a) Q
  refine hz_bc64 (by omega) (fun j hj v2 _ v3 _ v4 _ => ⟨by decide, fun v5 _ v6 _ t7 e7 => ?_⟩)
  have I7 : hx_inv t7 z m := by
    subst e7
    exact hx_frame hI rfl rfl rfl rfl rfl rfl hI.2.2.2.2.2.2.2.1 rfl rfl
  refine ⟨fun _ => hQ 0 t7 (by omega) I7, fun gt => ⟨by decide, fun v9 _ => ?_⟩⟩
  have j0 : 0 < j := by
    refine Nat.pos_of_ne_zero (fun q => gt ?_)
    subst q; decide
  refine ⟨nI_ne0 j0 (by omega), fun v10 e10 => ?_⟩
  refine hz_nth ?_ (by omega) (fun i hi => hQ i t7 hi I7)
  have h := hz_rem_lt (x := v9) (a := nI j) (by rw [nI_toInt (by omega)]; omega)
  refine Int32.le_iff_toInt_le.mpr ?_
  rw [e10, nI_toInt (n := 127) (by omega)]
  rw [nI_toInt (n := j) (by omega)] at h
  omega
theorem hz_gd_go {t : XT} {lj : Nat → Int64} {Q : Int32 → XT → Prop} (h1 : ∀ d, d < 5 → Q (nI d) t) (h0 : Q (-1) t) :
    ∀ (d i K : Nat) (li : Nat → Int32), i + d = 5 → 2 * d + 5 ≤ K → (li 3 = -1 ∨ ∃ e, e < 5 ∧ li 3 = nI e) → li 4 = nI i → wpX9_greatestDim K 1 t li lj Q := by
  have out : ∀ li : Nat → Int32, (li 3 = -1 ∨ ∃ e, e < 5 ∧ li 3 = nI e) → Q (li 3) t := by
    intro li h
    rcases h with h | ⟨e, he, h⟩
    · rw [h]; exact h0
    · rw [h]; exact h1 e he
  intro d
  induction d with
  | zero =>
    intro i K li hd hK e3 e4
    obtain ⟨K, rfl⟩ : ∃ K', K = K' + 1 := ⟨K - 1, by omega⟩
    obtain rfl : i = 5 := by omega
    show wbX9_greatestDim_1 (wpX9_greatestDim K) K t li lj Q
    exact ⟨fun _ => out li e3, fun x => absurd (show nI 5 ≤ li 4 by rw [e4]; exact nI_le (by omega) (by omega)) x⟩
  | succ d ih =>
    intro i K li hd hK e3 e4
    obtain ⟨K, rfl⟩ : ∃ K', K = K' + 2 := ⟨K - 2, by omega⟩
    have nx : ∀ li' : Nat → Int32, (li' 3 = -1 ∨ ∃ e, e < 5 ∧ li' 3 = nI e) → li' 4 = nI i → wpX9_greatestDim (K + 1) 2 t li' lj Q := by
      intro li' a3 a4
      show wbX9_greatestDim_2 (wpX9_greatestDim K) K t li' lj Q
      intro v e
      exact ih (i + 1) K _ (by omega) (by omega) a3 (by show v = _; rw [e, a4]; exact hs_inc i)
    show wbX9_greatestDim_1 (wpX9_greatestDim (K + 1)) (K + 1) t li lj Q
    refine ⟨fun _ => out li e3, fun _ => ⟨by rw [e4]; exact vp_in_nI (by omega) (by decide), fun v2 _ v3 _ v4 _ => ⟨fun _ => nx li e3 e4, fun _ => nx _ (Or.inr ⟨i, by omega, ?_⟩) e4⟩⟩⟩
    exact e4
theorem hz_greatestDim {t : XT} {K : Nat} {a : Int64} {Q : Int32 → XT → Prop} (hK : 20 ≤ K) (h1 : ∀ d, d < 5 → Q (nI d) t) (h0 : Q (-1) t) : wqX9_greatestDim K t a Q := by
  obtain ⟨K, rfl⟩ : ∃ K', K = K' + 1 := ⟨K - 1, by omega⟩
  exact hz_gd_go h1 h0 5 0 K _ (by omega) (by omega) (Or.inl rfl) rfl
theorem hz_greatest {t : XT} {K : Nat} {Q : Int64 → XT → Prop} (hK : 30 ≤ K) (h : ∀ v, Q v t) : wqX7_greatest K t Q := by
  obtain ⟨K, rfl⟩ : ∃ K', K = K' + 1 := ⟨K - 1, by omega⟩
  show wbX7_greatest_0 (wpX7_greatest K) K t (fun _ => 0) (fun _ => 0) Q
  refine hz_greatestDim (by omega) (fun d hd => ?_) ?_
  · exact hz_isDim (by omega) (fun e he ea => ⟨fun _ => h _, fun _ => ⟨vp_in_nI hd (by decide), fun v4 _ v5 _ => h _⟩⟩) ⟨fun _ => h _, fun x => absurd rfl x⟩
  · refine hz_isDim (by omega) (fun e he ea => ?_) ⟨fun _ => h _, fun x => absurd rfl x⟩
    have w : (-1 : Int32).toInt = (nI e).toInt := congrArg Int32.toInt ea
    rw [nI_toInt (by omega)] at w
    have w : (-1 : Int) = e := w
    omega
theorem hz_pd_go {z : Int32} {m : Nat} {lj : Nat → Int64} {Q : Int32 → XT → Prop} (hQ : ∀ r t', hx_inv t' z m → Q r t') :
    ∀ (d i K : Nat) (t : XT) (li : Nat → Int32), i + d = 60 → 2 * d + 300 ≤ K → hx_inv t z m → li 2 = nI i → wpX11_peelByDraws K 1 t li lj Q := by
  intro d
  induction d with
  | zero =>
    intro i K t li hd hK hI e2
    obtain ⟨K, rfl⟩ : ∃ K', K = K' + 2 := ⟨K - 2, by omega⟩
    obtain rfl : i = 60 := by omega
    show wbX11_peelByDraws_1 (wpX11_peelByDraws (K + 1)) (K + 1) t li lj Q
    exact ⟨fun _ => hQ _ t hI, fun x => absurd (show nI 60 ≤ li 2 by rw [e2]; exact nI_le (by omega) (by omega)) x⟩
  | succ d ih =>
    intro i K t li hd hK hI e2
    obtain ⟨K, rfl⟩ : ∃ K', K = K' + 2 := ⟨K - 2, by omega⟩
    have nx : ∀ (t' : XT) (li' : Nat → Int32), hx_inv t' z m → li' 2 = nI i → wpX11_peelByDraws (K + 1) 2 t' li' lj Q := by
      intro t' li' hI' a2
      show wbX11_peelByDraws_2 (wpX11_peelByDraws K) K t' li' lj Q
      intro v e
      exact ih (i + 1) K t' _ (by omega) (by omega) hI' (by show v = _; rw [e, a2]; exact hs_inc i)
    show wbX11_peelByDraws_1 (wpX11_peelByDraws (K + 1)) (K + 1) t li lj Q
    refine ⟨fun _ => hQ _ t hI, fun _ v3 _ => ⟨fun _ => hQ _ t hI, fun _ v5 _ => ⟨fun _ => ?_, fun _ => ?_⟩⟩⟩
    · exact hz_greatest (by omega) (fun v => hz_drawFrom hI (by omega) (fun j t8 hj h8 => hz_close h8 hj (by omega) (fun t9 h9 v10 _ => nx t9 _ h9 e2)))
    · exact hz_drawFrom hI (by omega) (fun j t1 hj h1 => hz_above hj (by omega) (fun k hk => hz_close h1 hk (by omega) (fun t2 h2 => hz_close h2 hj (by omega) (fun t3 h3 => nx t3 _ h3 e2))))
theorem hz_peelByDraws {t : XT} {z : Int32} {m K : Nat} {Q : Int32 → XT → Prop} (hI : hx_inv t z m) (hK : 500 ≤ K) (hQ : ∀ r t', hx_inv t' z m → Q r t') : wqX11_peelByDraws K t Q := by
  obtain ⟨K, rfl⟩ : ∃ K', K = K' + 1 := ⟨K - 1, by omega⟩
  show wbX11_peelByDraws_0 (wpX11_peelByDraws K) K t (fun _ => 0) (fun _ => 0) Q
  exact hz_begin hI (by omega) (fun t1 h1 => hz_pd_go hQ 60 0 K t1 _ (by omega) (by omega) h1 rfl)
theorem hz_dr_go {z : Int32} {m c : Nat} {lj : Nat → Int64} {Q : Int32 → XT → Prop} (hc : c ≤ 40) (hQ : ∀ r t', hx_inv t' z m → Q r t') :
    ∀ (d i K : Nat) (t : XT) (li : Nat → Int32), i + d = 40 → 4 * d + 600 ≤ K → hx_inv t z m → li 1 = nI c → li 7 = nI i → wpX11_drawn K 2 t li lj Q := by
  have fin : ∀ (t : XT) (li : Nat → Int32), hx_inv t z m → ∀ t_7 : XT, t_7 = sI t 0 (li 3) → ((¬ (li 2) = 0) → ((¬ (li 2) = 1) → Q (li 6) t_7) ∧ (((li 2) = 1) → Q (li 5) t_7)) ∧ (((li 2) = 0) → Q (li 4) t_7) := by
    intro t li hI t7 e7
    have I7 : hx_inv t7 z m := by
      subst e7
      exact hx_frame hI rfl rfl rfl rfl rfl rfl hI.2.2.2.2.2.2.2.1 rfl rfl
    exact ⟨fun _ => ⟨fun _ => hQ _ t7 I7, fun _ => hQ _ t7 I7⟩, fun _ => hQ _ t7 I7⟩
  intro d
  induction d with
  | zero =>
    intro i K t li hd hK hI e1 e7
    obtain ⟨K, rfl⟩ : ∃ K', K = K' + 1 := ⟨K - 1, by omega⟩
    obtain rfl : i = 40 := by omega
    show wbX11_drawn_2 (wpX11_drawn K) K t li lj Q
    exact ⟨fun _ => fin t li hI, fun x => absurd (by rw [e1, e7]; exact nI_le (by omega) (by omega)) x⟩
  | succ d ih =>
    intro i K t li hd hK hI e1 e7
    obtain ⟨K, rfl⟩ : ∃ K', K = K' + 3 := ⟨K - 3, by omega⟩
    have four : ∀ (t' : XT) (li' : Nat → Int32), hx_inv t' z m → li' 1 = nI c → li' 7 = nI i → wpX11_drawn (K + 1) 4 t' li' lj Q := by
      intro t' li' hI' a1 a7
      show wbX11_drawn_4 (wpX11_drawn K) K t' li' lj Q
      intro v e
      exact ih (i + 1) K t' _ (by omega) (by omega) hI' a1 (by show v = _; rw [e, a7]; exact hs_inc i)
    have three : ∀ (t' : XT) (li' : Nat → Int32), hx_inv t' z m → li' 1 = nI c → li' 7 = nI i → wpX11_drawn (K + 2) 3 t' li' lj Q := by
      intro t' li' hI' a1 a7
      show wbX11_drawn_3 (wpX11_drawn (K + 1)) (K + 1) t' li' lj Q
      exact ⟨fun _ => four t' _ hI' a1 a7, fun _ v14 _ => four t' _ hI' a1 a7⟩
    show wbX11_drawn_2 (wpX11_drawn (K + 2)) (K + 2) t li lj Q
    exact ⟨fun _ => fin t li hI, fun _ => hz_peelByDraws hI (by omega) (fun r t1 h1 v11 _ => ⟨fun _ => three t1 _ h1 e1 e7, fun _ => three t1 _ h1 e1 e7⟩)⟩
theorem hz_drawn {t : XT} {z : Int32} {m K : Nat} {a b : Int32} {Q : Int32 → XT → Prop} (hI : hx_inv t z m) (hK : 1000 ≤ K) (hQ : ∀ r t', hx_inv t' z m → Q r t') : wqX11_drawn K t a b Q := by
  obtain ⟨K, rfl⟩ : ∃ K', K = K' + 2 := ⟨K - 2, by omega⟩
  have out : wpX11_drawn (K + 1) 1 t (uI (uI (fun _ => 0) 1 a) 2 b) (fun _ => 0) Q := hQ _ t hI
  show wbX11_drawn_0 (wpX11_drawn (K + 1)) (K + 1) t (uI (uI (fun _ => 0) 1 a) 2 b) (fun _ => 0) Q
  refine ⟨fun _ => out, fun x => ⟨fun _ => out, fun y => ⟨fun _ => out, fun _ => ⟨fun _ => out, fun _ => ⟨fun _ => ?_, fun _ => out⟩⟩⟩⟩⟩
  have x : ¬ a < nI 1 := x
  have y : ¬ nI 40 < a := y
  obtain ⟨c, _, c40, ec⟩ := hq_between (a := a) (lo := 1) (hi := 40) (by omega) (by omega) ⟨Int32.not_lt.mp x, Int32.not_lt.mp y⟩
  subst ec
  exact hz_dr_go c40 hQ 40 0 (K + 1) t _ (by omega) (by omega) hI rfl rfl
theorem hz_hw_go {t : XT} {Q : Int64 → XT → Prop} (h : ∀ v, Q v t) :
    ∀ (d i K : Nat) (li : Nat → Int32) (lj : Nat → Int64), i + d = 60 → 2 * d + 10 ≤ K → li 8 = nI i → wpX9_hangingWith K 1 t li lj Q := by
  have two : ∀ (K : Nat) (li : Nat → Int32) (lj : Nat → Int64), 1 ≤ K → wpX9_hangingWith K 2 t li lj Q := by
    intro K li lj hK
    obtain ⟨K, rfl⟩ : ∃ K', K = K' + 1 := ⟨K - 1, by omega⟩
    exact h _
  intro d
  induction d with
  | zero =>
    intro i K li lj hd hK e8
    obtain ⟨K, rfl⟩ : ∃ K', K = K' + 1 := ⟨K - 1, by omega⟩
    obtain rfl : i = 60 := by omega
    show wbX9_hangingWith_1 (wpX9_hangingWith K) K t li lj Q
    exact ⟨fun _ => two K li lj (by omega), fun x => absurd (show nI 60 ≤ li 8 by rw [e8]; exact nI_le (by omega) (by omega)) x⟩
  | succ d ih =>
    intro i K li lj hd hK e8
    obtain ⟨K, rfl⟩ : ∃ K', K = K' + 1 := ⟨K - 1, by omega⟩
    show wbX9_hangingWith_1 (wpX9_hangingWith K) K t li lj Q
    refine ⟨fun _ => two K li lj (by omega), fun _ v3 _ => ⟨fun _ => two K li lj (by omega), fun _ => hz_lowest (by omega) (fun j hj => ?_)⟩⟩
    have hin := vp_in_nI (n := j) (N := 64) hj (by decide)
    exact ⟨hin, fun v6 _ => ⟨hin, fun v7 _ v8 _ v9 _ v10 _ v11 _ v12 _ v13 _ => hz_bit (by omega) (fun r14 v15 _ v16 _ v17 e17 => ih (i + 1) K _ _ (by omega) (by omega) (by show v17 = _; rw [e17, e8]; exact hs_inc i))⟩⟩
theorem hz_hangingWith {t : XT} {K : Nat} {a : Int32} {b : Int64} {Q : Int64 → XT → Prop} (hK : 200 ≤ K) (h : ∀ v, Q v t) : wqX9_hangingWith K t a b Q := by
  obtain ⟨K, rfl⟩ : ∃ K', K = K' + 1 := ⟨K - 1, by omega⟩
  show wbX9_hangingWith_0 (wpX9_hangingWith K) K t (uI (fun _ => 0) 1 a) (uI (fun _ => 0) 2 b) Q
  exact hz_bit (by omega) (fun v => hz_hw_go h 60 0 K _ _ (by omega) (by omega) rfl)
theorem hz_po_go {t : XT} {Q : Int32 → XT → Prop} (h : ∀ v, Q v t) :
    ∀ (d i K : Nat) (li : Nat → Int32) (lj : Nat → Int64), i + d = 60 → 2 * d + 300 ≤ K → li 3 = nI i → wpX9_partsOf K 1 t li lj Q := by
  have two : ∀ (K : Nat) (li : Nat → Int32) (lj : Nat → Int64), 1 ≤ K → wpX9_partsOf K 2 t li lj Q := by
    intro K li lj hK
    obtain ⟨K, rfl⟩ : ∃ K', K = K' + 1 := ⟨K - 1, by omega⟩
    exact h _
  intro d
  induction d with
  | zero =>
    intro i K li lj hd hK e3
    obtain ⟨K, rfl⟩ : ∃ K', K = K' + 1 := ⟨K - 1, by omega⟩
    obtain rfl : i = 60 := by omega
    show wbX9_partsOf_1 (wpX9_partsOf K) K t li lj Q
    exact fun v1 _ => ⟨fun _ => two K li lj (by omega), fun _ => ⟨fun _ => two K li lj (by omega), fun x => absurd (show nI 60 ≤ li 3 by rw [e3]; exact nI_le (by omega) (by omega)) x⟩⟩
  | succ d ih =>
    intro i K li lj hd hK e3
    obtain ⟨K, rfl⟩ : ∃ K', K = K' + 1 := ⟨K - 1, by omega⟩
    show wbX9_partsOf_1 (wpX9_partsOf K) K t li lj Q
    exact fun v1 _ => ⟨fun _ => two K li lj (by omega), fun _ => ⟨fun _ => two K li lj (by omega), fun _ => hz_lowest (by omega) (fun j hj => hz_hangingWith (by omega) (fun r5 v6 _ v7 _ v8 e8 => ih (i + 1) K _ _ (by omega) (by omega) (by show v8 = _; rw [e8, e3]; exact hs_inc i)))⟩⟩
theorem hz_partsOf {t : XT} {K : Nat} {a : Int64} {Q : Int32 → XT → Prop} (hK : 500 ≤ K) (h : ∀ v, Q v t) : wqX9_partsOf K t a Q := by
  obtain ⟨K, rfl⟩ : ∃ K', K = K' + 1 := ⟨K - 1, by omega⟩
  exact hz_po_go h 60 0 K _ _ (by omega) (by omega) rfl
theorem hz_count {t : XT} {K : Nat} {a : Int32} {Q : Int32 → XT → Prop} (hK : 600 ≤ K) (h : ∀ v, Q v t) : wqX11_count K t a Q := by
  obtain ⟨K, rfl⟩ : ∃ K', K = K' + 1 := ⟨K - 1, by omega⟩
  show wbX11_count_0 (wpX11_count K) K t (uI (fun _ => 0) 1 a) (fun _ => 0) Q
  exact ⟨fun _ => h _, fun _ => h _, fun _ => hz_bc64 (by omega) (fun _ _ => h _), fun _ => hz_greatestDim (by omega) (fun _ _ => h _) (h _), fun _ => hz_howMany (by omega) h, fun _ => hz_criticalOnes (by omega) h, fun _ => hz_eulerOf (by omega) h, fun _ => hz_partsOf (by omega) h, fun _ => h _, fun _ => h _, fun _ => h _⟩
theorem hz_wf_go {t : XT} {Q : Int64 → XT → Prop} (h : ∀ v, Q v t) :
    ∀ (c K : Nat) (li : Nat → Int32) (lj : Nat → Int64), c ≤ 60 → 2 * c + 5 ≤ K → li 5 = nI c - 1 → wpX9_withFaces K 1 t li lj Q := by
  intro c
  induction c with
  | zero =>
    intro K li lj hc hK e5
    obtain ⟨K, rfl⟩ : ∃ K', K = K' + 1 := ⟨K - 1, by omega⟩
    show wbX9_withFaces_1 (wpX9_withFaces K) K t li lj Q
    exact ⟨fun _ => h _, fun x => absurd (by rw [e5]; exact (hz_neg1 (by omega)).mpr rfl) x⟩
  | succ s ih =>
    intro K li lj hc hK e5
    have e5 : li 5 = nI s := e5.trans (nI_pred s)
    obtain ⟨K, rfl⟩ : ∃ K', K = K' + 2 := ⟨K - 2, by omega⟩
    have nx : ∀ lj' : Nat → Int64, wpX9_withFaces (K + 1) 2 t li lj' Q := by
      intro lj'
      show wbX9_withFaces_2 (wpX9_withFaces K) K t li lj' Q
      intro v e
      exact ih K _ _ (by omega) (by omega) (by show v = _; rw [e, e5]; exact hq_dec s)
    show wbX9_withFaces_1 (wpX9_withFaces (K + 1)) (K + 1) t li lj Q
    have hin : vp_in (li 5) 64 := by rw [e5]; exact vp_in_nI (by omega) (by decide)
    exact ⟨fun _ => h _, fun _ => hz_isIn (by omega) ⟨fun x => absurd x (by decide), fun _ => ⟨hin, fun v5 _ v6 _ => nx _⟩⟩ ⟨fun _ => nx _, fun x => absurd rfl x⟩⟩
theorem hz_withFaces {t : XT} {z : Int32} {m K : Nat} {a : Int64} {Q : Int64 → XT → Prop} (hI : hx_inv t z m) (hK : 200 ≤ K) (h : ∀ v, Q v t) : wqX9_withFaces K t a Q := by
  obtain ⟨K, rfl⟩ : ∃ K', K = K' + 1 := ⟨K - 1, by omega⟩
  have m60 := hI.2.2.1
  show wbX9_withFaces_0 (wpX9_withFaces K) K t (fun _ => 0) (uI (fun _ => 0) 1 a) Q
  intro v1 e1
  exact hz_wf_go h m K _ _ m60 (by omega) (by show v1 = _; rw [e1, hI.2.1])
/-- tables: a rows and b columns -/
def hx_ab (t : XT) (a b : Nat) : Prop := a < 64 ∧ b < 64 ∧ a * b ≤ 900 ∧ t.1 10 = nI a ∧ t.1 11 = nI b
theorem hx_at {a b r c : Nat} (hr : r < a) (hc : c < b) (hab : a * b ≤ 900) : r * b + c < 900 := by
  have h := Nat.mul_le_mul_right b (show r + 1 ≤ a from hr)
  rw [Nat.add_mul, Nat.one_mul] at h
  omega
theorem hx_lt {a b r c : Nat} (hr : r < a) (hc : c < b) : r * b + c < a * b := by
  have h := Nat.mul_le_mul_right b (show r + 1 ≤ a from hr)
  rw [Nat.add_mul, Nat.one_mul] at h
  omega
theorem hx_put {t t' : XT} {a b : Nat} (h : hx_ab t a b) (e : t'.1 = t.1) : hx_ab t' a b := by
  unfold hx_ab; rw [e]; exact h
theorem hz_cellI {b r c : Nat} {v w : Int32} (e : v = nI r * nI b) (f : w = v + nI c) : w = nI (r * b + c) := by
  rw [f, e, pk_mul, nI_add]
theorem hz_resize {t : XT} {z : Int32} {m a b K : Nat} {Q : XT → Prop} (hI : hx_inv t z m) (ha : a < 128) (hb : b < 128) (hK : 20 ≤ K) (hQ : ∀ t', hx_inv t' z m → Q t') : wqX5_resize K t (nI a) (nI b) Q := by
  obtain ⟨K, rfl⟩ : ∃ K', K = K' + 5 := ⟨K - 5, by omega⟩
  have four : ∀ (K2 : Nat) (t' : XT) (li : Nat → Int32) (lj : Nat → Int64) (x y : Nat), 1 ≤ K2 → x < 64 → y < 64 → x * y ≤ 900 → li 101 = nI y → t'.1 10 = nI x → (∀ v w, hx_M (sI (sI t 10 v) 11 w) → hx_inv (sI (sI t 10 v) 11 w) z m) → (∃ v, t' = sI t 10 v) → wpX5_resize K2 4 t' li lj Q := by
    intro K2 t' li lj x y hK2 hx hy hxy e1 e10 hF hT
    obtain ⟨K2, rfl⟩ : ∃ K', K2 = K' + 1 := ⟨K2 - 1, by omega⟩
    obtain ⟨v, rfl⟩ := hT
    show wbX5_resize_4 (wpX5_resize K2) K2 (sI t 10 v) li lj Q
    intro t10 e
    rw [e1] at e
    subst e
    exact hQ _ (hF v (nI y) ⟨x, y, hx, hy, hxy, e10, rfl⟩)
  have hF : ∀ v w, hx_M (sI (sI t 10 v) 11 w) → hx_inv (sI (sI t 10 v) 11 w) z m := by
    intro v w hM
    obtain ⟨a1, a2, a3, a4, a5, a6, a7, a8, a9, a10, _⟩ := hI
    exact ⟨a1, a2, a3, a4, a5, a6, a7, a8, a9, a10, hM⟩
  have three0 : ∀ (li : Nat → Int32) (lj : Nat → Int64), li 3 = 0 → li 101 = 0 → wpX5_resize (K + 2) 3 t li lj Q := by
    intro li lj e3 e1
    show wbX5_resize_3 (wpX5_resize (K + 1)) (K + 1) t li lj Q
    intro t8 e8
    exact ⟨fun _ => four (K + 1) t8 _ _ 0 0 (by omega) (by omega) (by omega) (by omega) rfl (by rw [e8, e1]; rfl) hF ⟨_, e8⟩, fun x => absurd e3 x⟩
  have three1 : ∀ (li : Nat → Int32) (lj : Nat → Int64), a < 64 → b < 64 → a * b ≤ 900 → li 3 = 1 → li 101 = nI a → li 2 = nI b → wpX5_resize (K + 2) 3 t li lj Q := by
    intro li lj ha hb hab e3 e1 e2
    show wbX5_resize_3 (wpX5_resize (K + 1)) (K + 1) t li lj Q
    intro t8 e8
    exact ⟨fun x => absurd (e3.symm.trans x) (by decide), fun _ => four (K + 1) t8 _ _ a b (by omega) ha hb hab e2 (by rw [e8, e1]; rfl) hF ⟨_, e8⟩⟩
  have two0 : ∀ (K2 : Nat) (li : Nat → Int32) (lj : Nat → Int64), K2 = K + 3 → li 100 = 0 → wpX5_resize K2 2 t li lj Q := by
    intro K2 li lj hK2 e
    subst hK2
    show wbX5_resize_2 (wpX5_resize (K + 2)) (K + 2) t li lj Q
    exact ⟨fun _ => three0 _ _ e rfl, fun x => absurd e x⟩
  have one : ∀ (li : Nat → Int32) (lj : Nat → Int64), wpX5_resize (K + 4) 1 t li lj Q := by
    intro li lj
    show wbX5_resize_1 (wpX5_resize (K + 3)) (K + 3) t li lj Q
    exact two0 _ _ _ rfl rfl
  show wbX5_resize_0 (wpX5_resize (K + 4)) (K + 4) t (uI (uI (fun _ => 0) 1 (nI a)) 2 (nI b)) (fun _ => 0) Q
  refine ⟨fun _ => one _ _, fun _ => ⟨fun _ => one _ _, fun _ => ⟨fun _ => one _ _, fun x1 => ⟨fun _ => one _ _, fun x2 v5 e5 => ⟨fun _ => one _ _, fun x3 => ?_⟩⟩⟩⟩⟩
  have x1 : ¬ nI 64 ≤ nI a := x1
  have x2 : ¬ nI 64 ≤ nI b := x2
  have h1 : a < 64 := Nat.lt_of_not_le (fun q => x1 (nI_le q (by omega)))
  have h2 : b < 64 := Nat.lt_of_not_le (fun q => x2 (nI_le q (by omega)))
  have e5 : v5 = nI (a * b) := e5.trans (pk_mul a b)
  have hab : a * b < 64 * 64 := by
    have := Nat.mul_lt_mul_of_lt_of_le h1 (Nat.le_of_lt h2) (by omega)
    omega
  have x3 : ¬ nI 900 < v5 := x3
  rw [e5] at x3
  have h3 : a * b ≤ 900 := Nat.le_of_not_lt (fun q => x3 (nI_lt q (by omega)))
  obtain ⟨K2, hK2⟩ : ∃ K2, K2 = K + 4 := ⟨_, rfl⟩
  show wpX5_resize (K + 4) 2 t _ _ Q
  show wbX5_resize_2 (wpX5_resize (K + 3)) (K + 3) t _ _ Q
  refine ⟨fun x => absurd (show (1 : Int32) = 0 from x) (by decide), fun _ => ?_⟩
  show wbX5_resize_3 (wpX5_resize (K + 2)) (K + 2) t _ _ Q
  intro t8 e8
  exact ⟨fun x => absurd (show (1 : Int32) = 0 from x) (by decide), fun _ => four (K + 2) t8 _ _ a b (by omega) h1 h2 h3 rfl (by rw [e8]; rfl) hF ⟨_, e8⟩⟩
theorem hz_put {t : XT} {z : Int32} {m K : Nat} {a b : Int32} {c : Int64} {Q : XT → Prop} (hI : hx_inv t z m) (hK : 2 ≤ K) (hQ : ∀ t', hx_inv t' z m → Q t') : wqX5_put K t a b c Q := by
  obtain ⟨K, rfl⟩ : ∃ K', K = K' + 1 := ⟨K - 1, by omega⟩
  obtain ⟨x, y, hx, hy, hxy, ex, ey⟩ := hI.2.2.2.2.2.2.2.2.2.2
  show wbX5_put_0 (wpX5_put K) K t (uI (uI (fun _ => 0) 1 a) 2 b) (uI (fun _ => 0) 3 c) Q
  refine ⟨fun _ => hQ t hI, fun n1 => ⟨fun _ => hQ t hI, fun n2 => ⟨fun _ => hQ t hI, fun n3 => ⟨fun _ => hQ t hI, fun n4 v5 e5 v6 e6 => ?_⟩⟩⟩⟩
  have n1 : ¬ a < 0 := n1
  have n2 : ¬ t.1 10 ≤ a := n2
  have n3 : ¬ b < 0 := n3
  have n4 : ¬ t.1 11 ≤ b := n4
  rw [ex] at n2
  rw [ey] at n4 e5
  obtain ⟨r, hr, er, _⟩ := pk_mu n1 n2 (by omega)
  obtain ⟨s, hs, es, _⟩ := pk_mu n3 n4 (by omega)
  have e5 : v5 = a * nI y := e5
  have e6 : v6 = v5 + b := e6
  rw [er] at e5
  rw [es] at e6
  have e6 := hz_cellI e5 e6
  subst e6
  refine ⟨vp_in_nI (hx_at hr hs hxy) (by decide), fun t7 e7 => hQ t7 ?_⟩
  rw [e7]; exact hx_same hI rfl rfl
