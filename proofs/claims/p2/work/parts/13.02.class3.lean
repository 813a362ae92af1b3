/-! ===== the class, pure: HEIGHTS, level, simplex, room, taking apart, auto, the TAPE ===== -/
theorem hx_same {t t' : XT} {z : Int32} {m : Nat} (hI : hx_inv t z m) (h1 : t'.1 = t.1) (h2 : t'.2.2.1 = t.2.2.1) : hx_inv t' z m := by
  refine hx_frame hI (by rw [h1]) (by rw [h1]) (by rw [h1]) (by rw [h1]) (by rw [h2]) (by rw [h2]) (by rw [h2]; exact hI.2.2.2.2.2.2.2.1) (by rw [h2]) (by rw [h2]) (by rw [h1]) (by rw [h1])
theorem hz_give_go {z : Int32} {m : Nat} {Q : Int64 → XT → Prop} (hQ : ∀ v t', hx_inv t' z m → Q v t') :
    ∀ (d i K : Nat) (t : XT) (li : Nat → Int32) (lj : Nat → Int64), i + d = m → 2 * d + 10 ≤ K → hx_inv t z m → li 6 = nI i → wpX2_give K 1 t li lj Q := by
  have three : ∀ (K : Nat) (t : XT) (li : Nat → Int32) (lj : Nat → Int64), 1 ≤ K → hx_inv t z m → wpX2_give K 3 t li lj Q := by
    intro K t li lj hK hI
    obtain ⟨K, rfl⟩ : ∃ K', K = K' + 1 := ⟨K - 1, by omega⟩
    exact hQ _ t hI
  intro d
  induction d with
  | zero =>
    intro i K t li lj hd hK hI e6
    obtain ⟨K, rfl⟩ : ∃ K', K = K' + 1 := ⟨K - 1, by omega⟩
    have m60 := hI.2.2.1
    show wbX2_give_1 (wpX2_give K) K t li lj Q
    exact ⟨fun _ => three K t li lj (by omega) hI, fun x => absurd (by rw [hI.2.1, e6]; exact nI_le (by omega) (by omega)) x⟩
  | succ d ih =>
    intro i K t li lj hd hK hI e6
    obtain ⟨K, rfl⟩ : ∃ K', K = K' + 2 := ⟨K - 2, by omega⟩
    have m60 := hI.2.2.1
    have nx : ∀ (t' : XT) (lj' : Nat → Int64), hx_inv t' z m → wpX2_give (K + 1) 2 t' li lj' Q := by
      intro t' lj' hI'
      show wbX2_give_2 (wpX2_give K) K t' li lj' Q
      intro v e
      exact ih (i + 1) K t' _ _ (by omega) (by omega) hI' (by show v = _; rw [e, e6]; exact hs_inc i)
    show wbX2_give_1 (wpX2_give (K + 1)) (K + 1) t li lj Q
    refine ⟨fun _ => three _ t li lj (by omega) hI, fun _ => ⟨fun _ => three _ t li lj (by omega) hI, fun y => ?_⟩⟩
    refine hz_isIn (by omega) ⟨fun x => absurd x (by decide), fun _ => ?_⟩ ⟨fun _ => nx t lj hI, fun x => absurd rfl x⟩
    rw [e6]
    refine hz_steps (by omega) (by omega) (fun v v6 _ v7 _ => ⟨fun _ => nx t lj hI, fun _ => hz_bit (by omega) (fun r9 v10 _ => ⟨vp_in_nI (by omega) (by decide), fun t11 e11 => ?_⟩)⟩)
    obtain ⟨a1, a2, a3, ⟨o, ho, eo⟩, a5, a6, a7, a8, a9, a10⟩ := hI
    have lt : o < 64 := by
      refine Nat.lt_of_not_le (fun q => y ?_)
      rw [eo]; exact nI_le (by omega) (by omega)
    have i6 : t11.1 6 = nI o := by rw [e11]; exact eo
    have co : (nI o).toNatClampNeg = o := nI_clamp (by omega)
    refine ⟨by rw [i6]; exact vp_in_nI lt (by decide), fun t12 e12 v13 e13 t14 e14 => nx t14 _ ?_⟩
    have f13 : v13 = nI (o + 1) := by rw [e13, e12]; exact (congrArg (· + 1) i6).trans (nI_1 o)
    rw [i6, co] at e12
    subst e14 e12 e11
    refine ⟨a1, a2, a3, ⟨o + 1, by omega, f13⟩, a5, a6, a7, a8, fun j hj => ?_, a10⟩
    show ∃ k, k < 64 ∧ upd (t.2.2.1 7) o (nI i) j = nI k
    by_cases x : j = o
    · exact ⟨i, by omega, if_pos x⟩
    · obtain ⟨k, k1, k2⟩ := a9 j hj
      exact ⟨k, k1, (if_neg x).trans k2⟩
theorem hz_give {t : XT} {z : Int32} {m K : Nat} {a : Int32} {b : Int64} {Q : Int64 → XT → Prop} (hI : hx_inv t z m) (hK : 200 ≤ K) (hQ : ∀ v t', hx_inv t' z m → Q v t') : wqX2_give K t a b Q := by
  obtain ⟨K, rfl⟩ : ∃ K', K = K' + 1 := ⟨K - 1, by omega⟩
  have m60 := hI.2.2.1
  exact hz_give_go hQ m 0 K t _ _ (by omega) (by omega) hI rfl
theorem hz_measure_go {z : Int32} {m : Nat} {Q : XT → Prop} (hQ : ∀ t', hx_inv t' z m → Q t') :
    ∀ (d i K : Nat) (t : XT) (li : Nat → Int32) (lj : Nat → Int64), i + d = 64 → d + 210 ≤ K → hx_inv t z m → li 3 = nI i → wpX2_measure K 1 t li lj Q := by
  intro d
  induction d with
  | zero =>
    intro i K t li lj hd hK hI e3
    obtain ⟨K, rfl⟩ : ∃ K', K = K' + 1 := ⟨K - 1, by omega⟩
    obtain rfl : i = 64 := by omega
    show wbX2_measure_1 (wpX2_measure K) K t li lj Q
    exact ⟨fun _ => hQ t hI, fun x => absurd (show nI 64 ≤ li 3 by rw [e3]; exact nI_le (by omega) (by omega)) x⟩
  | succ d ih =>
    intro i K t li lj hd hK hI e3
    obtain ⟨K, rfl⟩ : ∃ K', K = K' + 1 := ⟨K - 1, by omega⟩
    show wbX2_measure_1 (wpX2_measure K) K t li lj Q
    refine ⟨fun _ => hQ t hI, fun _ v6 _ => ⟨fun _ => hQ t hI, fun _ => hz_give hI (by omega) (fun v t' h' v9 _ v10 _ v11 e11 => ?_)⟩⟩
    exact ih (i + 1) K t' _ _ (by omega) (by omega) h' (by show v11 = _; rw [e11, e3]; exact hs_inc i)
theorem hz_measure {t : XT} {z : Int32} {m K : Nat} {Q : XT → Prop} (hI : hx_inv t z m) (hK : 300 ≤ K) (hQ : ∀ t', hx_inv t' z m → Q t') : wqX2_measure K t Q := by
  obtain ⟨K, rfl⟩ : ∃ K', K = K' + 1 := ⟨K - 1, by omega⟩
  show wbX2_measure_0 (wpX2_measure K) K t (fun _ => 0) (fun _ => 0) Q
  refine ⟨fun _ t2 e2 t3 e3 t4 e4 => ?_, fun _ => hQ t hI⟩
  refine hz_measure_go hQ 64 0 K t4 _ _ (by omega) (by omega) ?_ rfl
  obtain ⟨a1, a2, a3, a4, a5, a6, a7, a8, a9, a10⟩ := hI
  subst e4 e3 e2
  exact ⟨a1, a2, a3, ⟨0, by omega, rfl⟩, a5, a6, a7, a8, a9, a10⟩
theorem hz_of {t : XT} {z : Int32} {m k K : Nat} {Q : Int32 → XT → Prop} (hI : hx_inv t z m) (hk : k < 64) (hK : 301 ≤ K) (hQ : ∀ r t', hx_inv t' z m → Q r t') : wqX2_of K t (nI k) Q := by
  obtain ⟨K, rfl⟩ : ∃ K', K = K' + 1 := ⟨K - 1, by omega⟩
  show wbX2_of_0 (wpX2_of K) K t (uI (fun _ => 0) 1 (nI k)) (fun _ => 0) Q
  exact hz_measure hI (by omega) (fun t1 h1 => ⟨vp_in_nI hk (by decide), fun v _ => hQ v t1 h1⟩)
theorem hz_simplex {t : XT} {z : Int32} {m K : Nat} {a b : Int32} {Q : Int32 → XT → Prop} (hI : hx_inv t z m) (hK : 310 ≤ K) (hQ : ∀ r t', hx_inv t' z m → Q r t') : wqX11_simplex K t a b Q := by
  obtain ⟨K, rfl⟩ : ∃ K', K = K' + 1 := ⟨K - 1, by omega⟩
  have m60 := hI.2.2.1
  have h : ∀ r, Q r t := fun r => hQ r t hI
  show wbX11_simplex_0 (wpX11_simplex K) K t (uI (uI (fun _ => 0) 1 a) 2 b) (fun _ => 0) Q
  refine hz_has hI (by omega) (fun k hk ea => ⟨fun _ => ?_, fun x => absurd x (by decide)⟩) ⟨fun x => absurd rfl x, fun _ => h _⟩
  have ea : a = nI k := ea
  subst ea
  have i := vp_in_nI (n := k) (N := 64) (by omega) (by decide)
  exact ⟨fun _ => h _, fun _ => ⟨i, fun v _ => h v⟩, fun _ => ⟨i, fun v _ => h v⟩, fun _ => hz_isThere hI (by omega) (fun _ _ _ => ⟨fun _ => h _, fun _ => h _⟩) ⟨fun _ => h _, fun _ => h _⟩, fun _ => ⟨i, fun v _ => h v⟩, fun _ => hz_side (by omega) (by omega) h, fun _ => hz_of hI (by omega) (by omega) hQ, fun _ => ⟨i, fun _ _ _ _ => hz_bc64 (by omega) (fun _ _ => h _)⟩⟩
theorem hz_upTo_go {t : XT} {z : Int32} {m o : Nat} {Q : Int64 → XT → Prop} (hI : hx_inv t z m) (ho : o ≤ 64) (eo : t.1 6 = nI o) (h : ∀ v, Q v t) :
    ∀ (d i K : Nat) (li : Nat → Int32) (lj : Nat → Int64), i + d = o → 2 * d + 5 ≤ K → li 4 = nI i → wpX2_upTo K 1 t li lj Q := by
  intro d
  induction d with
  | zero =>
    intro i K li lj hd hK e4
    obtain ⟨K, rfl⟩ : ∃ K', K = K' + 1 := ⟨K - 1, by omega⟩
    show wbX2_upTo_1 (wpX2_upTo K) K t li lj Q
    exact ⟨fun _ => h _, fun x => absurd (by rw [eo, e4]; exact nI_le (by omega) (by omega)) x⟩
  | succ d ih =>
    intro i K li lj hd hK e4
    obtain ⟨K, rfl⟩ : ∃ K', K = K' + 2 := ⟨K - 2, by omega⟩
    have nx : ∀ lj' : Nat → Int64, wpX2_upTo (K + 1) 2 t li lj' Q := by
      intro lj'
      show wbX2_upTo_2 (wpX2_upTo K) K t li lj' Q
      intro v e
      exact ih (i + 1) K _ _ (by omega) (by omega) (by show v = _; rw [e, e4]; exact hs_inc i)
    obtain ⟨k, hk, ek⟩ := hI.2.2.2.2.2.2.2.2.1 i (by omega)
    show wbX2_upTo_1 (wpX2_upTo (K + 1)) (K + 1) t li lj Q
    unfold wbX2_upTo_1
    rw [e4]
    refine ⟨fun _ => h _, fun _ => ⟨vp_in_nI (by omega) (by decide), fun v3 e3 => ?_⟩⟩
    have e3 : v3 = nI k := e3.trans ((congrArg (t.2.2.1 7) (nI_clamp (by omega))).trans ek)
    rw [e3]
    exact ⟨vp_in_nI hk (by decide), fun _ _ => ⟨fun _ => nx _, fun _ => ⟨vp_in_nI (by omega) (by decide), fun _ _ => hz_bit (by omega) (fun _ _ _ => nx _)⟩⟩⟩
theorem hz_upTo {t : XT} {z : Int32} {m K : Nat} {a : Int32} {Q : Int64 → XT → Prop} (hI : hx_inv t z m) (hK : 310 ≤ K) (hQ : ∀ v t', hx_inv t' z m → Q v t') : wqX2_upTo K t a Q := by
  obtain ⟨K, rfl⟩ : ∃ K', K = K' + 1 := ⟨K - 1, by omega⟩
  show wbX2_upTo_0 (wpX2_upTo K) K t (uI (fun _ => 0) 1 a) (fun _ => 0) Q
  refine hz_measure hI (by omega) (fun t1 h1 => ?_)
  obtain ⟨o, ho, eo⟩ := h1.2.2.2.1
  exact hz_upTo_go h1 ho eo (fun v => hQ v t1 h1) o 0 K _ _ (by omega) (by omega) rfl
theorem hz_euler_go {t : XT} {lj : Nat → Int64} {Q : Int32 → XT → Prop} (h : ∀ r, Q r t) :
    ∀ (d i K : Nat) (li : Nat → Int32), i + d = 5 → 2 * d + 4 ≤ K → li 4 = nI i → wpX9_eulerOf K 1 t li lj Q := by
  intro d
  induction d with
  | zero =>
    intro i K li hd hK e4
    obtain ⟨K, rfl⟩ : ∃ K', K = K' + 1 := ⟨K - 1, by omega⟩
    obtain rfl : i = 5 := by omega
    show wbX9_eulerOf_1 (wpX9_eulerOf K) K t li lj Q
    exact ⟨fun _ => h _, fun x => absurd (show nI 5 ≤ li 4 by rw [e4]; exact nI_le (by omega) (by omega)) x⟩
  | succ d ih =>
    intro i K li hd hK e4
    obtain ⟨K, rfl⟩ : ∃ K', K = K' + 2 := ⟨K - 2, by omega⟩
    have nx : ∀ li' : Nat → Int32, li' 4 = nI i → wpX9_eulerOf (K + 1) 2 t li' lj Q := by
      intro li' a4
      show wbX9_eulerOf_2 (wpX9_eulerOf K) K t li' lj Q
      intro v8 _ v9 e9
      exact ih (i + 1) K _ (by omega) (by omega) (by show v9 = _; rw [e9, a4]; exact hs_inc i)
    show wbX9_eulerOf_1 (wpX9_eulerOf (K + 1)) (K + 1) t li lj Q
    have hin : vp_in (li 4) 5 := by rw [e4]; exact vp_in_nI (by omega) (by decide)
    exact ⟨fun _ => h _, fun _ => ⟨hin, fun _ _ _ _ => hz_bc64 (by omega) (fun _ _ _ _ => ⟨fun _ _ _ => nx _ e4, fun _ => nx _ e4⟩)⟩⟩
theorem hz_eulerOf {t : XT} {K : Nat} {a : Int64} {Q : Int32 → XT → Prop} (hK : 20 ≤ K) (h : ∀ r, Q r t) : wqX9_eulerOf K t a Q := by
  obtain ⟨K, rfl⟩ : ∃ K', K = K' + 1 := ⟨K - 1, by omega⟩
  exact hz_euler_go h 5 0 K _ (by omega) (by omega) rfl
theorem hz_level {t : XT} {z : Int32} {m K : Nat} {a b : Int32} {Q : Int32 → XT → Prop} (hI : hx_inv t z m) (hK : 320 ≤ K) (hQ : ∀ r t', hx_inv t' z m → Q r t') : wqX11_level K t a b Q := by
  obtain ⟨K, rfl⟩ : ∃ K', K = K' + 2 := ⟨K - 2, by omega⟩
  have out : wpX11_level (K + 1) 1 t (uI (uI (fun _ => 0) 1 a) 2 b) (fun _ => 0) Q := hQ _ t hI
  show wbX11_level_0 (wpX11_level (K + 1)) (K + 1) t (uI (uI (fun _ => 0) 1 a) 2 b) (fun _ => 0) Q
  refine ⟨fun _ => out, fun _ => ⟨fun _ => out, fun _ => ⟨fun _ => ?_, fun _ => out⟩⟩⟩
  exact hz_upTo hI (by omega) (fun v t1 h1 => ⟨fun _ => hz_eulerOf (by omega) (fun r => hQ r t1 h1), fun _ => hz_bc64 (by omega) (fun _ _ => hQ _ t1 h1)⟩)
theorem hz_ra_go {t : XT} {z : Int32} {m : Nat} {lj : Nat → Int64} {Q : Int32 → XT → Prop} (hI : hx_inv t z m) (h : ∀ r, Q r t) :
    ∀ (d i K : Nat) (li : Nat → Int32), i + d = m + 1 → 2 * d + 210 ≤ K → li 5 = nI i → wpX11_roomAbove K 1 t li lj Q := by
  have m60 := hI.2.2.1
  intro d
  induction d with
  | zero =>
    intro i K li hd hK e5
    obtain ⟨K, rfl⟩ : ∃ K', K = K' + 1 := ⟨K - 1, by omega⟩
    show wbX11_roomAbove_1 (wpX11_roomAbove K) K t li lj Q
    exact ⟨fun _ => h _, fun x => absurd (by rw [hI.2.1, e5]; exact nI_le (by omega) (by omega)) x⟩
  | succ d ih =>
    intro i K li hd hK e5
    obtain ⟨K, rfl⟩ : ∃ K', K = K' + 2 := ⟨K - 2, by omega⟩
    have nx : ∀ li' : Nat → Int32, li' 5 = nI i → wpX11_roomAbove (K + 1) 2 t li' lj Q := by
      intro li' a5
      show wbX11_roomAbove_2 (wpX11_roomAbove K) K t li' lj Q
      intro v e
      exact ih (i + 1) K _ (by omega) (by omega) (by show v = _; rw [e, a5]; exact hs_inc i)
    show wbX11_roomAbove_1 (wpX11_roomAbove (K + 1)) (K + 1) t li lj Q
    unfold wbX11_roomAbove_1
    rw [e5]
    refine ⟨fun _ => h _, fun _ => hz_isIn (by omega) ⟨fun x => absurd x (by decide), fun _ => ?_⟩ ⟨fun _ => nx _ e5, fun x => absurd rfl x⟩⟩
    exact hz_staysAcyclic hI (by omega) (by omega) (fun r => ⟨fun _ => nx _ e5, fun _ _ _ => nx _ e5⟩)
theorem hz_roomAbove {t : XT} {z : Int32} {m f K : Nat} {b : Int64} {Q : Int32 → XT → Prop} (hI : hx_inv t z m) (hf : f < m) (hK : 400 ≤ K) (h : ∀ r, Q r t) : wqX11_roomAbove K t (nI f) b Q := by
  obtain ⟨K, rfl⟩ : ∃ K', K = K' + 1 := ⟨K - 1, by omega⟩
  have m60 := hI.2.2.1
  show wbX11_roomAbove_0 (wpX11_roomAbove K) K t (uI (fun _ => 0) 1 (nI f)) (uI (fun _ => 0) 2 b) Q
  intro v1 e1
  exact hz_ra_go hI h (m - f) (f + 1) K _ (by omega) (by omega) (e1.trans (nI_1 f))
theorem hz_room_go {t : XT} {z : Int32} {m : Nat} {lj : Nat → Int64} {Q : Int32 → XT → Prop} (hI : hx_inv t z m) (h : ∀ r, Q r t) :
    ∀ (d i K : Nat) (li : Nat → Int32), i + d = m → 2 * d + 410 ≤ K → li 5 = nI i → wpX11_room K 1 t li lj Q := by
  have m60 := hI.2.2.1
  intro d
  induction d with
  | zero =>
    intro i K li hd hK e5
    obtain ⟨K, rfl⟩ : ∃ K', K = K' + 1 := ⟨K - 1, by omega⟩
    show wbX11_room_1 (wpX11_room K) K t li lj Q
    exact ⟨fun _ => h _, fun x => absurd (by rw [hI.2.1, e5]; exact nI_le (by omega) (by omega)) x⟩
  | succ d ih =>
    intro i K li hd hK e5
    obtain ⟨K, rfl⟩ : ∃ K', K = K' + 2 := ⟨K - 2, by omega⟩
    have nx : ∀ li' : Nat → Int32, li' 5 = nI i → wpX11_room (K + 1) 2 t li' lj Q := by
      intro li' a5
      show wbX11_room_2 (wpX11_room K) K t li' lj Q
      intro v e
      exact ih (i + 1) K _ (by omega) (by omega) (by show v = _; rw [e, a5]; exact hs_inc i)
    show wbX11_room_1 (wpX11_room (K + 1)) (K + 1) t li lj Q
    unfold wbX11_room_1
    rw [e5]
    refine ⟨fun _ => h _, fun _ => hz_isIn (by omega) ⟨fun x => absurd x (by decide), fun _ => ⟨vp_in_nI (by omega) (by decide), fun _ _ => ⟨fun _ => nx _ e5, fun _ => ⟨vp_in_nI (by omega) (by decide), fun _ _ _ _ => ?_⟩⟩⟩⟩ ⟨fun _ => nx _ e5, fun x => absurd rfl x⟩⟩
    exact hz_roomAbove hI (by omega) (by omega) (fun r _ _ => nx _ e5)
theorem hz_room {t : XT} {z : Int32} {m K : Nat} {a : Int32} {Q : Int32 → XT → Prop} (hI : hx_inv t z m) (hK : 600 ≤ K) (h : ∀ r, Q r t) : wqX11_room K t a Q := by
  obtain ⟨K, rfl⟩ : ∃ K', K = K' + 1 := ⟨K - 1, by omega⟩
  have m60 := hI.2.2.1
  show wbX11_room_0 (wpX11_room K) K t (uI (fun _ => 0) 1 a) (fun _ => 0) Q
  exact hz_isDim (by omega) (fun _ _ _ => ⟨fun _ => hz_unpaired (by omega) (fun v => hz_room_go hI h m 0 K _ (by omega) (by omega) rfl), fun x => absurd x (by decide)⟩) ⟨fun x => absurd rfl x, fun _ => h _⟩
theorem hz_end {t : XT} {z : Nat} {m K : Nat} {a : Int32} {Q : Int32 → XT → Prop} (hI : hx_inv t (nI z) m) (hz : z ≤ 160) (hK : 2 ≤ K) (h1 : ∀ y, y ≤ z → a = nI y → ∀ t', hx_inv t' (nI y) m → Q (nI y) t') (h0 : (∀ y, y ≤ z → a ≠ nI y) → Q (-1) t) : wqX11_end K t a Q := by
  obtain ⟨K, rfl⟩ : ∃ K', K = K' + 2 := ⟨K - 2, by omega⟩
  obtain ⟨a1, ar⟩ := hI
  show wbX11_end_0 (wpX11_end (K + 1)) (K + 1) t (uI (fun _ => 0) 1 a) (fun _ => 0) Q
  refine ⟨fun x => h0 (fun y hy e => ?_), fun x => ⟨fun y t3 e3 => ?_, fun y => h0 (fun y' hy e => ?_)⟩⟩
  · have x : a < nI 0 := x
    rw [e] at x
    exact nI_nlt (Nat.zero_le _) (by omega) x
  · have x : ¬ a < 0 := x
    have y : a ≤ t.1 1 := y
    rw [a1] at y
    obtain ⟨k, _, k1, e⟩ := hq_between (a := a) (lo := 0) (hi := z) (by omega) (by omega) ⟨Int32.not_lt.mp x, y⟩
    subst e
    refine h1 k k1 rfl t3 ?_
    subst e3
    exact ⟨rfl, ar⟩
  · have y : ¬ a ≤ t.1 1 := y
    rw [a1, e] at y
    exact y (nI_le hy (by omega))
theorem hz_draws {t : XT} {z : Int32} {m K : Nat} {a : Int32} {Q : Int32 → XT → Prop} (hI : hx_inv t z m) (hK : 1 ≤ K) (hQ : ∀ r t', hx_inv t' z m → Q r t') : wqX11_draws K t a Q := by
  obtain ⟨K, rfl⟩ : ∃ K', K = K' + 1 := ⟨K - 1, by omega⟩
  show wbX11_draws_0 (wpX11_draws K) K t (uI (fun _ => 0) 1 a) (fun _ => 0) Q
  refine ⟨fun _ t2 e2 => hQ _ t2 ?_, fun _ => hQ _ t hI⟩
  subst e2
  exact hx_frame hI rfl rfl rfl rfl rfl rfl hI.2.2.2.2.2.2.2.1 rfl rfl
