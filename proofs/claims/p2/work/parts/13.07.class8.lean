/-! ===== the class, pure: tables filled and eliminated; betti, slack, levelBetti ===== -/
theorem hz_fr_go {z : Int32} {m k : Nat} {Q : XT → Prop} (hk : k < 64) (hQ : ∀ t', hx_inv t' z m → Q t') :
    ∀ (d i K : Nat) (t : XT) (li : Nat → Int32) (lj : Nat → Int64), i + d = m → 4 * d + 20 ≤ K → hx_inv t z m → li 2 = nI k → li 7 = nI i → wpX0_fillRow K 1 t li lj Q := by
  intro d
  induction d with
  | zero =>
    intro i K t li lj hd hK hI e2 e7
    have m60 := hI.2.2.1
    obtain ⟨K, rfl⟩ : ∃ K', K = K' + 1 := ⟨K - 1, by omega⟩
    show wbX0_fillRow_1 (wpX0_fillRow K) K t li lj Q
    exact ⟨fun _ => hQ t hI, fun x => absurd (by rw [hI.2.1, e7]; exact nI_le (by omega) (by omega)) x⟩
  | succ d ih =>
    intro i K t li lj hd hK hI e2 e7
    have m60 := hI.2.2.1
    obtain ⟨K, rfl⟩ : ∃ K', K = K' + 3 := ⟨K - 3, by omega⟩
    have three : ∀ (K2 : Nat) (t' : XT) (li' : Nat → Int32) (lj' : Nat → Int64), K + 1 ≤ K2 → hx_inv t' z m → li' 2 = nI k → li' 7 = nI i → wpX0_fillRow K2 3 t' li' lj' Q := by
      intro K2 t' li' lj' h hI' a2 a7
      obtain ⟨K2, rfl⟩ : ∃ K', K2 = K' + 1 := ⟨K2 - 1, by omega⟩
      show wbX0_fillRow_3 (wpX0_fillRow K2) K2 t' li' lj' Q
      intro v e
      exact ih (i + 1) K2 t' _ _ (by omega) (by omega) hI' a2 (by show v = _; rw [e, a7]; exact hs_inc i)
    have two : ∀ (t' : XT) (li' : Nat → Int32) (lj' : Nat → Int64), hx_inv t' z m → li' 2 = nI k → li' 7 = nI i → wpX0_fillRow (K + 2) 2 t' li' lj' Q := by
      intro t' li' lj' hI' a2 a7
      show wbX0_fillRow_2 (wpX0_fillRow (K + 1)) (K + 1) t' li' lj' Q
      exact hz_put hI' (by omega) (fun t8 h8 v9 _ => three _ t8 _ _ (by omega) h8 a2 a7)
    show wbX0_fillRow_1 (wpX0_fillRow (K + 2)) (K + 2) t li lj Q
    have hin : vp_in (li 7) 64 := by rw [e7]; exact vp_in_nI (by omega) (by decide)
    refine ⟨fun _ => hQ t hI, fun _ => hz_isIn (by omega) ⟨fun x => absurd x (by decide), fun _ => ⟨fun _ => ?_, fun _ => ⟨hin, fun v7 _ => two t _ _ hI e2 e7⟩⟩⟩ ⟨fun _ => three _ t _ _ (by omega) hI e2 e7, fun x => absurd rfl x⟩⟩
    rw [e7, e2]
    exact hz_signOf (by omega) hk (by omega) (fun r v6 _ => two t _ _ hI e2 e7)
theorem hz_fillRow {t : XT} {z : Int32} {m k K : Nat} {a b : Int32} {c : Int64} {Q : XT → Prop} (hI : hx_inv t z m) (hk : k < 64) (hK : 300 ≤ K) (hQ : ∀ t', hx_inv t' z m → Q t') : wqX0_fillRow K t a (nI k) c b Q := by
  obtain ⟨K, rfl⟩ : ∃ K', K = K' + 1 := ⟨K - 1, by omega⟩
  have m60 := hI.2.2.1
  exact hz_fr_go hk hQ m 0 K t _ _ (by omega) (by omega) hI rfl rfl
theorem hz_fi_go {z : Int32} {m : Nat} {lj : Nat → Int64} {Q : XT → Prop} (hQ : ∀ t', hx_inv t' z m → Q t') :
    ∀ (d i K : Nat) (t : XT) (li : Nat → Int32), i + d = m → 4 * d + 500 ≤ K → hx_inv t z m → li 7 = nI i → wpX0_fill K 1 t li lj Q := by
  intro d
  induction d with
  | zero =>
    intro i K t li hd hK hI e7
    have m60 := hI.2.2.1
    obtain ⟨K, rfl⟩ : ∃ K', K = K' + 1 := ⟨K - 1, by omega⟩
    show wbX0_fill_1 (wpX0_fill K) K t li lj Q
    exact ⟨fun _ => hQ t hI, fun x => absurd (by rw [hI.2.1, e7]; exact nI_le (by omega) (by omega)) x⟩
  | succ d ih =>
    intro i K t li hd hK hI e7
    have m60 := hI.2.2.1
    obtain ⟨K, rfl⟩ : ∃ K', K = K' + 3 := ⟨K - 3, by omega⟩
    have three : ∀ (K2 : Nat) (t' : XT) (li' : Nat → Int32), K + 1 ≤ K2 → hx_inv t' z m → li' 7 = nI i → wpX0_fill K2 3 t' li' lj Q := by
      intro K2 t' li' h hI' a7
      obtain ⟨K2, rfl⟩ : ∃ K', K2 = K' + 1 := ⟨K2 - 1, by omega⟩
      show wbX0_fill_3 (wpX0_fill K2) K2 t' li' lj Q
      intro v e
      exact ih (i + 1) K2 t' _ (by omega) (by omega) hI' (by show v = _; rw [e, a7]; exact hs_inc i)
    have two : ∀ (t' : XT), hx_inv t' z m → wpX0_fill (K + 2) 2 t' li lj Q := by
      intro t' hI'
      show wbX0_fill_2 (wpX0_fill (K + 1)) (K + 1) t' li lj Q
      unfold wbX0_fill_2
      rw [e7]
      exact hz_fillRow hI' (by omega) (by omega) (fun t11 h11 v12 _ => three _ t11 _ (by omega) h11 e7)
    show wbX0_fill_1 (wpX0_fill (K + 2)) (K + 2) t li lj Q
    have hin : vp_in (li 7) 64 := by rw [e7]; exact vp_in_nI (by omega) (by decide)
    refine ⟨fun _ => hQ t hI, fun _ => hz_isIn (by omega) ⟨fun x => absurd x (by decide), fun _ => ⟨fun _ => two t hI, fun _ => ?_⟩⟩ ⟨fun _ => three _ t _ (by omega) hI e7, fun x => absurd rfl x⟩⟩
    have st : wqX1_start (K + 2) t (nI i) (fun t_8 => (vp_in (li 7) 64 ∧ (∀ v_9 : Int32, v_9 = (t_8.2.2.1 3) (li 7).toNatClampNeg → (wqX1_pour (K + 2) t_8 v_9 1 (fun t_10 => wpX0_fill (K + 2) 2 t_10 li lj Q))))) :=
      hz_start hI (by omega) (by omega) (fun t8 h8 => ⟨hin, fun v9 _ => hz_pour h8 (by omega) (fun t10 h10 => two t10 h10)⟩)
    rw [← e7] at st
    exact st
theorem hz_fill {t : XT} {z : Int32} {m K : Nat} {a b : Int64} {c : Int32} {Q : XT → Prop} (hI : hx_inv t z m) (hK : 1000 ≤ K) (hQ : ∀ t', hx_inv t' z m → Q t') : wqX0_fill K t a b c Q := by
  obtain ⟨K, rfl⟩ : ∃ K', K = K' + 1 := ⟨K - 1, by omega⟩
  have m60 := hI.2.2.1
  show wbX0_fill_0 (wpX0_fill K) K t (uI (fun _ => 0) 5 c) (uI (uI (fun _ => 0) 1 a) 3 b) Q
  exact hz_bc64 (by omega) (fun j1 h1 => hz_bc64 (by omega) (fun j2 h2 => hz_resize hI h1 h2 (by omega) (fun t3 h3 => hz_fi_go hQ m 0 K t3 _ (by omega) (by omega) h3 rfl)))
theorem hz_fR_go {t : XT} {a b c : Nat} {lj : Nat → Int64} {Q : Int32 → XT → Prop} (hM : hx_ab t a b) (hc : c < b) (h1 : ∀ r, r < a → Q (nI r) t) (h0 : Q (-1) t) :
    ∀ (d r K : Nat) (li : Nat → Int32), r + d = 64 → d + 5 ≤ K → li 2 = nI c → li 3 = nI r → wpX5_firstRow K 1 t li lj Q := by
  obtain ⟨ha, hb, hab, ea, eb⟩ := hM
  intro d
  induction d with
  | zero =>
    intro r K li hd hK e2 e3
    obtain ⟨K, rfl⟩ : ∃ K', K = K' + 1 := ⟨K - 1, by omega⟩
    show wbX5_firstRow_1 (wpX5_firstRow K) K t li lj Q
    exact ⟨fun _ => h0, fun x => absurd (by rw [ea, e3]; exact nI_le (by omega) (by omega)) x⟩
  | succ d ih =>
    intro r K li hd hK e2 e3
    obtain ⟨K, rfl⟩ : ∃ K', K = K' + 1 := ⟨K - 1, by omega⟩
    show wbX5_firstRow_1 (wpX5_firstRow K) K t li lj Q
    unfold wbX5_firstRow_1
    rw [ea, eb, e2, e3]
    refine ⟨fun _ => h0, fun lt v2 f2 v3 f3 => ?_⟩
    have hr : r < a := Nat.lt_of_not_le (fun q => lt (nI_le q (by omega)))
    have f3 := hz_cellI f2 f3
    subst f3
    exact ⟨vp_in_nI (hx_at hr hc hab) (by decide), fun v4 _ v5 _ => ⟨fun _ v7 e7 => ih (r + 1) K _ (by omega) (by omega) e2 (by show v7 = _; rw [e7]; exact hs_inc r), fun _ => h1 r hr⟩⟩
theorem hz_firstRow {t : XT} {a b r c K : Nat} {Q : Int32 → XT → Prop} (hM : hx_ab t a b) (hr : r < 64) (hc : c < b) (hK : 100 ≤ K) (h1 : ∀ r, r < a → Q (nI r) t) (h0 : Q (-1) t) : wqX5_firstRow K t (nI r) (nI c) Q := by
  obtain ⟨K, rfl⟩ : ∃ K', K = K' + 1 := ⟨K - 1, by omega⟩
  exact hz_fR_go hM hc h1 h0 (64 - r) r K _ (by omega) (by omega) rfl rfl
theorem hz_sr_go {A : Nat → Int32} {B : Nat → Nat → Int32} {a b x y : Nat} {lj : Nat → Int64} {Q : XT → Prop} (ha : a < 64) (hb : b < 64) (hab : a * b ≤ 900) (eb : A 11 = nI b) (hx : x < a) (hy : y < a) (hQ : ∀ t', t'.1 = A → t'.2.2.1 = B → Q t') :
    ∀ (d j K : Nat) (t : XT) (li : Nat → Int32), j + d = 64 → d + 5 ≤ K → t.1 = A → t.2.2.1 = B → li 2 = nI x → li 3 = nI y → li 4 = nI j → wpX5_swapRows_c31 K 1 t li lj Q := by
  intro d
  induction d with
  | zero =>
    intro j K t li hd hK eA eB e2 e3 e4
    obtain ⟨K, rfl⟩ : ∃ K', K = K' + 1 := ⟨K - 1, by omega⟩
    have eb : t.1 11 = nI b := by rw [eA]; exact eb
    show wbX5_swapRows_c31_1 (wpX5_swapRows_c31 K) K t li lj Q
    exact ⟨fun _ => hQ t eA eB, fun x => absurd (by rw [eb, e4]; exact nI_le (by omega) (by omega)) x⟩
  | succ d ih =>
    intro j K t li hd hK eA eB e2 e3 e4
    obtain ⟨K, rfl⟩ : ∃ K', K = K' + 1 := ⟨K - 1, by omega⟩
    have eb : t.1 11 = nI b := by rw [eA]; exact eb
    show wbX5_swapRows_c31_1 (wpX5_swapRows_c31 K) K t li lj Q
    unfold wbX5_swapRows_c31_1
    rw [eb, e2, e3, e4]
    refine ⟨fun _ => hQ t eA eB, fun lt => ⟨fun _ => hQ t eA eB, fun _ v3 f3 v4 f4 => ?_⟩⟩
    have hj : j < b := Nat.lt_of_not_le (fun q => lt (nI_le q (by omega)))
    have f4 := hz_cellI f3 f4
    subst f4
    refine ⟨vp_in_nI (hx_at hx hj hab) (by decide), fun v5 _ v6 f6 v7 f7 v8 f8 v9 f9 => ?_⟩
    have f7 := hz_cellI f6 f7
    have f9 := hz_cellI f8 f9
    subst f7 f9
    refine ⟨vp_in_nI (hx_at hy hj hab) (by decide), fun v10 _ => ⟨vp_in_nI (hx_at hx hj hab) (by decide), fun t11 e11 v12 f12 v13 f13 => ?_⟩⟩
    have eb' : t11.1 11 = nI b := by rw [e11]; exact eb
    rw [eb'] at f12
    have f13 := hz_cellI f12 f13
    subst f13
    exact ⟨vp_in_nI (hx_at hy hj hab) (by decide), fun t14 e14 v15 e15 => ih (j + 1) K t14 _ (by omega) (by omega) (by rw [e14, e11]; exact eA) (by rw [e14, e11]; exact eB) e2 e3 (by show v15 = _; rw [e15]; exact hs_inc j)⟩
theorem hz_mp_go {A : Nat → Int32} {B : Nat → Nat → Int32} {a b x : Nat} {lj : Nat → Int64} {Q : XT → Prop} (ha : a < 64) (hb : b < 64) (hab : a * b ≤ 900) (eb : A 11 = nI b) (hx : x < a) (hQ : ∀ t', t'.1 = A → t'.2.2.1 = B → Q t') :
    ∀ (d j K : Nat) (t : XT) (li : Nat → Int32), j + d = 64 → d + 5 ≤ K → t.1 = A → t.2.2.1 = B → li 1 = nI x → li 3 = nI j → wpX5_makePositive K 1 t li lj Q := by
  intro d
  induction d with
  | zero =>
    intro j K t li hd hK eA eB e1 e3
    obtain ⟨K, rfl⟩ : ∃ K', K = K' + 1 := ⟨K - 1, by omega⟩
    have eb : t.1 11 = nI b := by rw [eA]; exact eb
    show wbX5_makePositive_1 (wpX5_makePositive K) K t li lj Q
    exact ⟨fun _ => hQ t eA eB, fun x => absurd (by rw [eb, e3]; exact nI_le (by omega) (by omega)) x⟩
  | succ d ih =>
    intro j K t li hd hK eA eB e1 e3
    obtain ⟨K, rfl⟩ : ∃ K', K = K' + 1 := ⟨K - 1, by omega⟩
    have eb : t.1 11 = nI b := by rw [eA]; exact eb
    show wbX5_makePositive_1 (wpX5_makePositive K) K t li lj Q
    unfold wbX5_makePositive_1
    rw [eb, e1, e3]
    refine ⟨fun _ => hQ t eA eB, fun lt v7 f7 v8 f8 v9 f9 v10 f10 => ?_⟩
    have hj : j < b := Nat.lt_of_not_le (fun q => lt (nI_le q (by omega)))
    have f8 := hz_cellI f7 f8
    have f10 := hz_cellI f9 f10
    subst f8 f10
    exact ⟨vp_in_nI (hx_at hx hj hab) (by decide), fun v11 _ v12 _ => ⟨vp_in_nI (hx_at hx hj hab) (by decide), fun t13 e13 v14 e14 => ih (j + 1) K t13 _ (by omega) (by omega) (by rw [e13]; exact eA) (by rw [e13]; exact eB) e1 (by show v14 = _; rw [e14]; exact hs_inc j)⟩⟩
theorem hz_makePositive {t : XT} {a b x c K : Nat} {Q : XT → Prop} (hM : hx_ab t a b) (hx : x < a) (hc : c < b) (hK : 100 ≤ K) (hQ : ∀ t', t'.1 = t.1 → t'.2.2.1 = t.2.2.1 → Q t') : wqX5_makePositive K t (nI x) (nI c) Q := by
  obtain ⟨K, rfl⟩ : ∃ K', K = K' + 1 := ⟨K - 1, by omega⟩
  obtain ⟨ha, hb, hab, ea, eb⟩ := hM
  show wbX5_makePositive_0 (wpX5_makePositive K) K t (uI (uI (fun _ => 0) 1 (nI x)) 2 (nI c)) (fun _ => 0) Q
  unfold wbX5_makePositive_0
  rw [eb]
  intro v1 f1 v2 f2
  have f2 := hz_cellI f1 f2
  subst f2
  exact ⟨vp_in_nI (hx_at hx hc hab) (by decide), fun v3 _ v4 _ => ⟨fun _ => hz_mp_go (B := t.2.2.1) ha hb hab eb hx hQ (64 - c) c K t _ (by omega) (by omega) rfl rfl rfl rfl, fun _ => hQ t rfl rfl⟩⟩
theorem hz_cb_go {A : Nat → Int32} {B : Nat → Nat → Int32} {a b x c : Nat} {Q : XT → Prop} (ha : a < 64) (hb : b < 64) (hab : a * b ≤ 900) (ea : A 10 = nI a) (eb : A 11 = nI b) (hx : x < a) (hc : c < b) (hQ : ∀ t', t'.1 = A → t'.2.2.1 = B → Q t') :
    ∀ (d r K : Nat) (t : XT) (li : Nat → Int32) (lj : Nat → Int64), r + d = 64 → 80 * d + 5 ≤ K → t.1 = A → t.2.2.1 = B → ¬ lj 3 = 0 → li 1 = nI x → li 2 = nI c → li 7 = nI r → wpX5_clearBelow K 1 t li lj Q := by
  intro d
  induction d with
  | zero =>
    intro r K t li lj hd hK eA eB n3 e1 e2 e7
    obtain ⟨K, rfl⟩ : ∃ K', K = K' + 1 := ⟨K - 1, by omega⟩
    have ea : t.1 10 = nI a := by rw [eA]; exact ea
    show wbX5_clearBelow_1 (wpX5_clearBelow K) K t li lj Q
    exact ⟨fun _ => hQ t eA eB, fun x => absurd (by rw [ea, e7]; exact nI_le (by omega) (by omega)) x⟩
  | succ d ih =>
    intro r K t li lj hd hK eA eB n3 e1 e2 e7
    obtain ⟨K, rfl⟩ : ∃ K', K = K' + 1 := ⟨K - 1, by omega⟩
    by_cases hr : r < a
    · have five : ∀ (K2 : Nat) (t' : XT) (li' : Nat → Int32) (lj' : Nat → Int64), 80 * d + 6 ≤ K2 → t'.1 = A → t'.2.2.1 = B → ¬ lj' 3 = 0 → li' 1 = nI x → li' 2 = nI c → li' 7 = nI r → wpX5_clearBelow K2 5 t' li' lj' Q := by
        intro K2 t' li' lj' h a1 a2 a3 a4 a5 a6
        obtain ⟨K2, rfl⟩ : ∃ K', K2 = K' + 1 := ⟨K2 - 1, by omega⟩
        show wbX5_clearBelow_5 (wpX5_clearBelow K2) K2 t' li' lj' Q
        intro v e
        exact ih (r + 1) K2 t' _ _ (by omega) (by omega) a1 a2 a3 a4 a5 (by show v = _; rw [e, a6]; exact hs_inc r)
      have four : ∀ (f j K2 : Nat) (t' : XT) (li' : Nat → Int32) (lj' : Nat → Int64), j + f = 64 → 80 * d + f + 7 ≤ K2 → t'.1 = A → t'.2.2.1 = B → ¬ lj' 3 = 0 → li' 1 = nI x → li' 2 = nI c → li' 7 = nI r → li' 11 = nI j → wpX5_clearBelow K2 4 t' li' lj' Q := by
        intro f
        induction f with
        | zero =>
          intro j K2 t' li' lj' hf h a1 a2 a3 a4 a5 a6 a7
          obtain ⟨K2, rfl⟩ : ∃ K', K2 = K' + 1 := ⟨K2 - 1, by omega⟩
          have eb : t'.1 11 = nI b := by rw [a1]; exact eb
          show wbX5_clearBelow_4 (wpX5_clearBelow K2) K2 t' li' lj' Q
          exact ⟨fun _ => five K2 t' li' lj' (by omega) a1 a2 a3 a4 a5 a6, fun x => absurd (by rw [eb, a7]; exact nI_le (by omega) (by omega)) x⟩
        | succ f ih2 =>
          intro j K2 t' li' lj' hf h a1 a2 a3 a4 a5 a6 a7
          obtain ⟨K2, rfl⟩ : ∃ K', K2 = K' + 1 := ⟨K2 - 1, by omega⟩
          have eb : t'.1 11 = nI b := by rw [a1]; exact eb
          show wbX5_clearBelow_4 (wpX5_clearBelow K2) K2 t' li' lj' Q
          unfold wbX5_clearBelow_4
          rw [eb, a4, a6, a7]
          refine ⟨fun _ => five K2 t' li' lj' (by omega) a1 a2 a3 a4 a5 a6, fun lt => ⟨fun _ => five K2 t' li' lj' (by omega) a1 a2 a3 a4 a5 a6, fun _ v17 f17 v18 f18 => ?_⟩⟩
          have hj : j < b := Nat.lt_of_not_le (fun q => lt (nI_le q (by omega)))
          have f18 := hz_cellI f17 f18
          subst f18
          refine ⟨vp_in_nI (hx_at hr hj hab) (by decide), fun v19 _ v20 _ v21 f21 v22 f22 => ?_⟩
          have f22 := hz_cellI f21 f22
          subst f22
          exact ⟨vp_in_nI (hx_at hx hj hab) (by decide), fun v23 _ v24 _ v25 _ => ⟨a3, fun v26 _ => ⟨vp_in_nI (hx_at hr hj hab) (by decide), fun t27 e27 v28 e28 => ih2 (j + 1) K2 t27 _ _ (by omega) (by omega) (by rw [e27]; exact a1) (by rw [e27]; exact a2) a3 a4 a5 a6 (by show v28 = _; rw [e28]; exact hs_inc j)⟩⟩⟩
      obtain ⟨K, rfl⟩ : ∃ K', K = K' + 2 := ⟨K - 2, by omega⟩
      have three : ∀ (K2 : Nat) (li' : Nat → Int32) (lj' : Nat → Int64), K + 1 ≤ K2 → ¬ lj' 3 = 0 → li' 1 = nI x → li' 2 = nI c → li' 7 = nI r → wpX5_clearBelow K2 3 t li' lj' Q := by
        intro K2 li' lj' h a3 a4 a5 a6
        obtain ⟨K2, rfl⟩ : ∃ K', K2 = K' + 1 := ⟨K2 - 1, by omega⟩
        show wpX5_clearBelow K2 4 t (uI (uI li' 10 (li' 100)) 11 (li' 2)) lj' Q
        exact four (64 - c) c K2 t _ _ (by omega) (by omega) eA eB a3 a4 a5 a6 a5
      have two : ∀ (li' : Nat → Int32) (lj' : Nat → Int64), ¬ lj' 3 = 0 → li' 1 = nI x → li' 2 = nI c → li' 7 = nI r → wpX5_clearBelow (K + 2) 2 t li' lj' Q := by
        intro li' lj' a3 a4 a5 a6
        show wpX5_clearBelow (K + 1) 3 t (uI li' 100 1) lj' Q
        exact three (K + 1) _ _ (by omega) a3 a4 a5 a6
      have ea : t.1 10 = nI a := by rw [eA]; exact ea
      have eb : t.1 11 = nI b := by rw [eA]; exact eb
      show wbX5_clearBelow_1 (wpX5_clearBelow (K + 2)) (K + 2) t li lj Q
      unfold wbX5_clearBelow_1
      rw [ea, eb, e2, e7]
      refine ⟨fun _ => hQ t eA eB, fun _ v8 f8 v9 f9 => ?_⟩
      have f9 := hz_cellI f8 f9
      subst f9
      exact ⟨vp_in_nI (hx_at hr hc hab) (by decide), fun v10 _ v11 _ => ⟨fun _ => two _ _ n3 e1 e2 e7, fun _ v13 _ => ⟨fun _ => three (K + 2) _ _ (by omega) n3 e1 e2 e7, fun _ => two _ _ n3 e1 e2 e7⟩⟩⟩
    · have ea : t.1 10 = nI a := by rw [eA]; exact ea
      show wbX5_clearBelow_1 (wpX5_clearBelow K) K t li lj Q
      exact ⟨fun _ => hQ t eA eB, fun x => absurd (by rw [ea, e7]; exact nI_le (by omega) (by omega)) x⟩
theorem hz_clearBelow {t : XT} {a b x c K : Nat} {l : Int64} {Q : XT → Prop} (hM : hx_ab t a b) (hx : x < a) (hc : c < b) (hK : 6000 ≤ K) (hQ : ∀ t', t'.1 = t.1 → t'.2.2.1 = t.2.2.1 → Q t') : wqX5_clearBelow K t (nI x) (nI c) l Q := by
  obtain ⟨K, rfl⟩ : ∃ K', K = K' + 1 := ⟨K - 1, by omega⟩
  obtain ⟨ha, hb, hab, ea, eb⟩ := hM
  show wbX5_clearBelow_0 (wpX5_clearBelow K) K t (uI (uI (fun _ => 0) 1 (nI x)) 2 (nI c)) (uI (fun _ => 0) 3 l) Q
  unfold wbX5_clearBelow_0
  rw [eb]
  intro v1 f1 v2 f2
  have f2 := hz_cellI f1 f2
  subst f2
  refine ⟨vp_in_nI (hx_at hx hc hab) (by decide), fun v3 _ v4 e4 => ⟨fun ne v6 e6 => ?_, fun _ => hQ t rfl rfl⟩⟩
  have n3 : ¬ l = 0 := fun q => ne (e4.trans ((hs_cmp0 _ _).mpr q))
  exact hz_cb_go (B := t.2.2.1) ha hb hab ea eb hx hc hQ (64 - (x + 1)) (x + 1) K t _ _ (by omega) (by omega) rfl rfl n3 rfl rfl (by show v6 = _; rw [e6]; exact nI_1 x)
theorem hz_el_go {A : Nat → Int32} {B : Nat → Nat → Int32} {a b : Nat} {Q : Int32 → XT → Prop} (ha : a < 64) (hb : b < 64) (hab : a * b ≤ 900) (ea : A 10 = nI a) (eb : A 11 = nI b) (hQ : ∀ r t', r < 64 → t'.1 = A → t'.2.2.1 = B → Q (nI r) t') :
    ∀ (d c r K : Nat) (t : XT) (li : Nat → Int32) (lj : Nat → Int64), c + d = 64 → 2 * d + 6010 ≤ K → r ≤ a → t.1 = A → t.2.2.1 = B → li 1 = nI r → li 4 = nI c → wpX5_eliminate K 1 t li lj Q := by
  have three : ∀ (r K : Nat) (t : XT) (li : Nat → Int32) (lj : Nat → Int64), 1 ≤ K → r ≤ a → t.1 = A → t.2.2.1 = B → li 1 = nI r → wpX5_eliminate K 3 t li lj Q := by
    intro r K t li lj hK hr eA eB e1
    obtain ⟨K, rfl⟩ : ∃ K', K = K' + 1 := ⟨K - 1, by omega⟩
    show wbX5_eliminate_3 (wpX5_eliminate K) K t li lj Q
    intro t15 e15
    rw [e1]
    exact hQ r t15 (by omega) (by rw [e15]; exact eA) (by rw [e15]; exact eB)
  intro d
  induction d with
  | zero =>
    intro c r K t li lj hd hK hr eA eB e1 e4
    obtain ⟨K, rfl⟩ : ∃ K', K = K' + 1 := ⟨K - 1, by omega⟩
    have eb : t.1 11 = nI b := by rw [eA]; exact eb
    show wbX5_eliminate_1 (wpX5_eliminate K) K t li lj Q
    exact ⟨fun _ => three r K t li lj (by omega) hr eA eB e1, fun x => absurd (by rw [eb, e4]; exact nI_le (by omega) (by omega)) x⟩
  | succ d ih =>
    intro c r K t li lj hd hK hr eA eB e1 e4
    obtain ⟨K, rfl⟩ : ∃ K', K = K' + 2 := ⟨K - 2, by omega⟩
    have nx : ∀ (r' : Nat) (t' : XT) (li' : Nat → Int32) (lj' : Nat → Int64), r' ≤ a → t'.1 = A → t'.2.2.1 = B → li' 1 = nI r' → li' 4 = nI c → wpX5_eliminate (K + 1) 2 t' li' lj' Q := by
      intro r' t' li' lj' a0 a1 a2 a3 a4
      show wbX5_eliminate_2 (wpX5_eliminate K) K t' li' lj' Q
      intro v e
      exact ih (c + 1) r' K t' _ _ (by omega) (by omega) a0 a1 a2 a3 (by show v = _; rw [e, a4]; exact hs_inc c)
    have ea1 : t.1 10 = nI a := by rw [eA]; exact ea
    have eb1 : t.1 11 = nI b := by rw [eA]; exact eb
    show wbX5_eliminate_1 (wpX5_eliminate (K + 1)) (K + 1) t li lj Q
    unfold wbX5_eliminate_1
    rw [ea1, eb1, e1, e4]
    refine ⟨fun _ => three r _ t li lj (by omega) hr eA eB e1, fun x1 => ⟨fun _ => three r _ t li lj (by omega) hr eA eB e1, fun x2 => ?_⟩⟩
    have hc : c < b := Nat.lt_of_not_le (fun q => x1 (nI_le q (by omega)))
    have hr' : r < a := Nat.lt_of_not_le (fun q => x2 (nI_le q (by omega)))
    have hM : hx_ab t a b := ⟨ha, hb, hab, ea1, eb1⟩
    refine hz_firstRow hM (by omega) hc (by omega) (fun y hy => ⟨fun q => ?_, fun _ => ?_⟩) ⟨fun _ => nx r t _ _ hr eA eB e1 e4, fun x => absurd rfl x⟩
    · exfalso
      have w : (nI y).toInt = (-1 : Int32).toInt := congrArg Int32.toInt q
      rw [nI_toInt (by omega)] at w
      have w : (y : Int) = -1 := w
      omega
    · refine hz_sr_go (A := A) (B := B) ha hb hab eb hr' hy (fun t7 a7 b7 => ?_) 64 0 K t (uI (uI (uI (fun _ => 0) 2 (nI r)) 3 (nI y)) 4 0) (by omega) (by omega) eA eB rfl rfl rfl
      have M7 : hx_ab t7 a b := hx_put hM (a7.trans eA.symm)
      refine hz_makePositive M7 hr' hc (by omega) (fun t8 a8 b8 => ?_)
      have M8 : hx_ab t8 a b := hx_put M7 a8
      refine hz_clearBelow M8 hr' hc (by omega) (fun t9 a9 b9 v10 f10 v11 f11 => ?_)
      have eb9 : t9.1 11 = nI b := (hx_put M8 a9).2.2.2.2
      rw [eb9] at f10
      have f11 := hz_cellI f10 f11
      subst f11
      exact ⟨vp_in_nI (hx_at hr' hc hab) (by decide), fun v12 _ v13 e13 => nx (r + 1) t9 _ _ (by omega) (a9.trans (a8.trans a7)) (b9.trans (b8.trans b7)) (by show v13 = _; rw [e13]; exact hs_inc r) e4⟩
theorem hz_eliminate {t : XT} {z : Int32} {m K : Nat} {Q : Int32 → XT → Prop} (hI : hx_inv t z m) (hK : 7000 ≤ K) (hQ : ∀ r t', r < 64 → hx_inv t' z m → Q (nI r) t') : wqX5_eliminate K t Q := by
  obtain ⟨K, rfl⟩ : ∃ K', K = K' + 1 := ⟨K - 1, by omega⟩
  obtain ⟨a, b, ha, hb, hab, ea, eb⟩ := hI.2.2.2.2.2.2.2.2.2.2
  show wbX5_eliminate_0 (wpX5_eliminate K) K t (fun _ => 0) (fun _ => 0) Q
  unfold wbX5_eliminate_0
  rw [ea, eb]
  intro v1 e1
  have e1 : v1 = nI (a * b) := e1.trans (pk_mul a b)
  subst e1
  have c1 : (nI (a * b)).toNatClampNeg = a * b := nI_clamp (by omega)
  have c0 : (0 : Int32).toNatClampNeg = 0 := by decide
  refine ⟨by decide, by decide, nI_pos (by omega), by rw [c1, c0]; omega, by rw [c1, c0]; omega, fun t2 e2 => ?_⟩
  exact hz_el_go (A := t.1) (B := t.2.2.1) ha hb hab ea eb (fun r t' hr a1 b1 => hQ r t' hr (hx_same hI a1 b1)) 64 0 0 K t2 _ _ (by omega) (by omega) (by omega) (by rw [e2]; rfl) (by rw [e2]; rfl) rfl rfl
theorem hz_rankOf {t : XT} {z : Int32} {m K : Nat} {a : Int64} {b c : Int32} {Q : Int32 → XT → Prop} (hI : hx_inv t z m) (hK : 8000 ≤ K) (hQ : ∀ r t', r < 64 → hx_inv t' z m → Q (nI r) t') : wqX0_rankOf K t a b c Q := by
  obtain ⟨K, rfl⟩ : ∃ K', K = K' + 2 := ⟨K - 2, by omega⟩
  have out : wpX0_rankOf (K + 1) 1 t (uI (uI (fun _ => 0) 3 b) 4 c) (uI (fun _ => 0) 1 a) Q := hQ 0 t (by omega) hI
  show wbX0_rankOf_0 (wpX0_rankOf (K + 1)) (K + 1) t (uI (uI (fun _ => 0) 3 b) 4 c) (uI (fun _ => 0) 1 a) Q
  refine ⟨fun _ => out, fun x => ⟨fun y => ?_, fun _ => out⟩⟩
  have x : ¬ b < nI 1 := x
  have y : b < nI 5 := y
  have y := Int32.lt_iff_toInt_lt.mp y
  rw [nI_toInt (by omega)] at y
  obtain ⟨d, d1, d4, e⟩ := hq_between (a := b) (lo := 1) (hi := 4) (by omega) (by omega) ⟨Int32.not_lt.mp x, by
    refine Int32.le_iff_toInt_le.mpr ?_
    rw [nI_toInt (by omega)]
    omega⟩
  subst e
  obtain ⟨d, rfl⟩ : ∃ d', d = d' + 1 := ⟨d - 1, by omega⟩
  refine ⟨vp_in_nI (n := d + 1) (by omega) (by decide), fun v3 _ v4 _ v5 e5 => ?_⟩
  have e5 : v5 = nI d := e5.trans (nI_pred d)
  subst e5
  refine ⟨vp_in_nI (by omega) (by decide), fun v6 _ v7 _ => ?_⟩
  exact hz_fill hI (by omega) (fun t8 h8 => hz_eliminate h8 (by omega) (fun r t9 hr h9 => hQ r t9 hr h9))
theorem hz_bettiOf {t : XT} {z : Int32} {m d K : Nat} {a : Int64} {c : Int32} {Q : Int32 → XT → Prop} (hI : hx_inv t z m) (hd : d < 5) (hK : 8100 ≤ K) (hQ : ∀ r t', hx_inv t' z m → Q r t') : wqX0_bettiOf K t a (nI d) c Q := by
  obtain ⟨K, rfl⟩ : ∃ K', K = K' + 1 := ⟨K - 1, by omega⟩
  show wbX0_bettiOf_0 (wpX0_bettiOf K) K t (uI (uI (fun _ => 0) 3 (nI d)) 4 c) (uI (fun _ => 0) 1 a) Q
  exact ⟨vp_in_nI (n := d) hd (by decide), fun v1 _ v2 _ => hz_bc64 (by omega) (fun j _ => hz_rankOf hI (by omega) (fun r4 t4 _ h4 v5 _ v6 _ => hz_rankOf h4 (by omega) (fun r7 t7 _ h7 v8 _ => hQ v8 t7 h7)))⟩
theorem hz_basis {t : XT} {K : Nat} {a : Int32} {Q : Int64 → XT → Prop} (hK : 4 ≤ K) (h : ∀ v, Q v t) : wqX11_basis K t a Q := by
  obtain ⟨K, rfl⟩ : ∃ K', K = K' + 1 := ⟨K - 1, by omega⟩
  exact ⟨fun _ => h _, fun _ => hz_unpaired (by omega) h⟩
theorem hz_betti {t : XT} {z : Int32} {m K : Nat} {a b : Int32} {Q : Int32 → XT → Prop} (hI : hx_inv t z m) (hK : 8200 ≤ K) (hQ : ∀ r t', hx_inv t' z m → Q r t') : wqX11_betti K t a b Q := by
  obtain ⟨K, rfl⟩ : ∃ K', K = K' + 2 := ⟨K - 2, by omega⟩
  have out : wpX11_betti (K + 1) 1 t (uI (uI (fun _ => 0) 1 a) 2 b) (fun _ => 0) Q := hQ _ t hI
  have two : ∀ (d : Nat) (li : Nat → Int32) (lj : Nat → Int64), d < 5 → li 102 = nI d → wpX11_betti (K + 1) 2 t li lj Q := by
    intro d li lj hd e
    show wbX11_betti_2 (wpX11_betti K) K t li lj Q
    unfold wbX11_betti_2
    rw [e]
    exact hz_bettiOf hI hd (by omega) (fun r t' h' => hQ r t' h')
  show wbX11_betti_0 (wpX11_betti (K + 1)) (K + 1) t (uI (uI (fun _ => 0) 1 a) 2 b) (fun _ => 0) Q
  refine hz_isDim (by omega) (fun d hd ea => ⟨fun x => absurd x (by decide), fun _ => ⟨fun _ => out, fun _ => ⟨fun _ => hz_basis (by omega) (fun v => ⟨fun _ => two d _ _ hd ea, fun _ => two d _ _ hd ea⟩), fun _ => out⟩⟩⟩) ⟨fun _ => out, fun x => absurd rfl x⟩
theorem hz_sl_go {z : Int32} {m : Nat} {lj : Nat → Int64} {a : Nat} {Q : Int32 → XT → Prop} (ha : a < 5) (hQ : ∀ r t', hx_inv t' z m → Q r t') :
    ∀ (d i K : Nat) (t : XT) (li : Nat → Int32), i + d = 5 → d + 8200 ≤ K → hx_inv t z m → li 1 = nI a → li 3 = nI i → wpX11_slack K 1 t li lj Q := by
  intro d
  induction d with
  | zero =>
    intro i K t li hd hK hI e1 e3
    obtain ⟨K, rfl⟩ : ∃ K', K = K' + 1 := ⟨K - 1, by omega⟩
    show wbX11_slack_1 (wpX11_slack K) K t li lj Q
    exact ⟨fun _ => hQ _ t hI, fun x => absurd (by rw [e1, e3]; exact nI_lt (by omega) (by omega)) x⟩
  | succ d ih =>
    intro i K t li hd hK hI e1 e3
    obtain ⟨K, rfl⟩ : ∃ K', K = K' + 1 := ⟨K - 1, by omega⟩
    show wbX11_slack_1 (wpX11_slack K) K t li lj Q
    unfold wbX11_slack_1
    rw [e1, e3]
    refine ⟨fun _ => hQ _ t hI, fun _ => hz_unpaired (by omega) (fun v => ⟨vp_in_nI (by omega) (by decide), fun v5 _ v6 _ => hz_bc64 (by omega) (fun j _ => hz_bettiOf hI (by omega) (by omega) (fun r8 t8 h8 v9 _ v10 _ v11 e11 => ?_))⟩)⟩
    exact ih (i + 1) K t8 _ (by omega) (by omega) h8 e1 (by show v11 = _; rw [e11]; exact hs_inc i)
theorem hz_slack {t : XT} {z : Int32} {m K : Nat} {a : Int32} {Q : Int32 → XT → Prop} (hI : hx_inv t z m) (hK : 8300 ≤ K) (hQ : ∀ r t', hx_inv t' z m → Q r t') : wqX11_slack K t a Q := by
  obtain ⟨K, rfl⟩ : ∃ K', K = K' + 1 := ⟨K - 1, by omega⟩
  show wbX11_slack_0 (wpX11_slack K) K t (uI (fun _ => 0) 1 a) (fun _ => 0) Q
  exact hz_isDim (by omega) (fun d hd ea => ⟨fun _ => hz_sl_go hd hQ 5 0 K t _ (by omega) (by omega) hI ea rfl, fun x => absurd x (by decide)⟩) ⟨fun x => absurd rfl x, fun _ => hQ _ t hI⟩
theorem hz_levelBetti {t : XT} {z : Int32} {m K : Nat} {a b : Int32} {Q : Int32 → XT → Prop} (hI : hx_inv t z m) (hK : 8300 ≤ K) (hQ : ∀ r t', hx_inv t' z m → Q r t') : wqX11_levelBetti K t a b Q := by
  obtain ⟨K, rfl⟩ : ∃ K', K = K' + 2 := ⟨K - 2, by omega⟩
  have out : wpX11_levelBetti (K + 1) 1 t (uI (uI (fun _ => 0) 1 a) 2 b) (fun _ => 0) Q := hQ _ t hI
  show wbX11_levelBetti_0 (wpX11_levelBetti (K + 1)) (K + 1) t (uI (uI (fun _ => 0) 1 a) 2 b) (fun _ => 0) Q
  refine ⟨fun _ => out, fun _ => hz_isDim (by omega) (fun d hd ea => ⟨fun _ => ?_, fun x => absurd x (by decide)⟩) ⟨fun x => absurd rfl x, fun _ => out⟩⟩
  have ea : b = nI d := ea
  subst ea
  exact hz_upTo hI (by omega) (fun v t4 h4 => hz_withFaces h4 (by omega) (fun w => hz_bettiOf h4 hd (by omega) (fun r t6 h6 => hQ r t6 h6)))
