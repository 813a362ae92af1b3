/-! ===== minors: rows changed over, turned about; the elimination ===== -/
theorem hb_sw_go {A : Nat → Int32} {B : Nat → Nat → Int32} {J : Nat → Int64} {a b x y : Nat} {E : Nat → Nat → Int} {lj : Nat → Int64} {Q : XT → Prop} (ha : a < 64) (hb : b < 64) (hab : a * b ≤ 900) (eb : A 11 = nI b) (hx : x < a) (hy : y < a) (hQ : ∀ t', t'.1 = A → t'.2.2.1 = B → t'.2.1 = J → hx_E t' a b (fun r j => E (if r = x then y else if r = y then x else r) j) → Q t') :
    ∀ (d j K : Nat) (t : XT) (li : Nat → Int32), j + d = 64 → d + 5 ≤ K → t.1 = A → t.2.2.1 = B → t.2.1 = J → hx_E t a b (fun r k => E (if k < j then (if r = x then y else if r = y then x else r) else r) k) → li 2 = nI x → li 3 = nI y → li 4 = nI j → wpX5_swapRows_c31 K 1 t li lj Q := by
  have fin : ∀ (j : Nat) (t : XT), b ≤ j ∨ x = y → t.1 = A → t.2.2.1 = B → t.2.1 = J → hx_E t a b (fun r k => E (if k < j then (if r = x then y else if r = y then x else r) else r) k) → Q t := by
    intro j t h eA eB eJ hE
    refine hQ t eA eB eJ (hx_E_of hE (fun r k hr hk => ?_))
    show E (if k < j then (if r = x then y else if r = y then x else r) else r) k = E (if r = x then y else if r = y then x else r) k
    rcases h with h | h
    · rw [if_pos (by omega)]
    · subst h
      have e : (if r = x then x else if r = x then x else r) = r := by
        by_cases q : r = x
        · rw [if_pos q, q]
        · rw [if_neg q, if_neg q]
      rw [e]
      by_cases q : k < j
      · rw [if_pos q]
      · rw [if_neg q]
  intro d
  induction d with
  | zero =>
    intro j K t li hd hK eA eB eJ hE e2 e3 e4
    obtain ⟨K, rfl⟩ : ∃ K', K = K' + 1 := ⟨K - 1, by omega⟩
    have eb : t.1 11 = nI b := by rw [eA]; exact eb
    show wbX5_swapRows_c31_1 (wpX5_swapRows_c31 K) K t li lj Q
    exact ⟨fun _ => fin j t (Or.inl (by omega)) eA eB eJ hE, fun x => absurd (by rw [eb, e4]; exact nI_le (by omega) (by omega)) x⟩
  | succ d ih =>
    intro j K t li hd hK eA eB eJ hE e2 e3 e4
    obtain ⟨K, rfl⟩ : ∃ K', K = K' + 1 := ⟨K - 1, by omega⟩
    have eb : t.1 11 = nI b := by rw [eA]; exact eb
    show wbX5_swapRows_c31_1 (wpX5_swapRows_c31 K) K t li lj Q
    unfold wbX5_swapRows_c31_1
    rw [eb, e2, e3, e4]
    refine ⟨fun ge => fin j t (Or.inl ((nI_leI (by omega) (by omega)).mp ge)) eA eB eJ hE, fun lt => ⟨fun q => fin j t (Or.inr ((nI_eq (by omega) (by omega)).mp q)) eA eB eJ hE, fun ne v3 f3 v4 f4 => ?_⟩⟩
    have hj : j < b := Nat.lt_of_not_le (fun q => lt (nI_le q (by omega)))
    have nxy : x ≠ y := fun q => ne (congrArg nI q)
    have f4 := hz_cellI f3 f4
    subst f4
    have hxj := hx_at hx hj hab
    have hyj := hx_at hy hj hab
    refine ⟨vp_in_nI hxj (by decide), fun v5 e5 v6 f6 v7 f7 v8 f8 v9 f9 => ?_⟩
    have f7 := hz_cellI f6 f7
    have f9 := hz_cellI f8 f9
    subst f7 f9
    refine ⟨vp_in_nI hyj (by decide), fun v10 e10 => ⟨vp_in_nI hxj (by decide), fun t11 e11 v12 f12 v13 f13 => ?_⟩⟩
    have eb' : t11.1 11 = nI b := by rw [e11]; exact eb
    rw [eb'] at f12
    have f13 := hz_cellI f12 f13
    subst f13
    rw [nI_clamp (by omega)] at e5 e10 e11
    have g5 : v5.toInt = E x j := by
      rw [e5, hE x j hx hj]
      show E (if j < j then _ else x) j = _
      rw [if_neg (by omega)]
    have g10 : v10.toInt = E y j := by
      rw [e10, hE y j hy hj]
      show E (if j < j then _ else y) j = _
      rw [if_neg (by omega)]
    refine ⟨vp_in_nI hyj (by decide), fun t14 e14 v15 e15 => ih (j + 1) K t14 _ (by omega) (by omega) (by rw [e14, e11]; exact eA) (by rw [e14, e11]; exact eB) (by rw [e14, e11]; exact eJ) ?_ e2 e3 (by show v15 = _; rw [e15]; exact hs_inc j)⟩
    rw [nI_clamp (by omega)] at e14
    have h11 := hx_E_put (x := x) hE hj g10
    rw [← e11] at h11
    have h14 := hx_E_put (x := y) h11 hj g5
    rw [← e14] at h14
    refine hx_E_of h14 (fun r k hr hk => ?_)
    show (if r = y ∧ k = j then E x j else if r = x ∧ k = j then E y j else E (if k < j then (if r = x then y else if r = y then x else r) else r) k) = E (if k < j + 1 then (if r = x then y else if r = y then x else r) else r) k
    by_cases k1 : k = j
    · subst k1
      rw [if_pos (show k < k + 1 by omega)]
      by_cases ry : r = y
      · rw [if_pos ⟨ry, rfl⟩, if_neg (by omega), if_pos ry]
      · rw [if_neg (fun z => ry z.1)]
        by_cases rx : r = x
        · rw [if_pos ⟨rx, rfl⟩, if_pos rx]
        · rw [if_neg (fun z => rx z.1), if_neg rx, if_neg ry, if_neg (by omega)]
    · rw [if_neg (fun z => k1 z.2), if_neg (fun z => k1 z.2)]
      by_cases k2 : k < j
      · rw [if_pos k2, if_pos (show k < j + 1 by omega)]
      · rw [if_neg k2, if_neg (show ¬ k < j + 1 by omega)]
theorem hb_swap {t : XT} {a b x y K : Nat} {E : Nat → Nat → Int} {Q : XT → Prop} (hM : hx_ab t a b) (hx : x < a) (hy : y < a) (hE : hx_E t a b E) (hK : 100 ≤ K) (hQ : ∀ t', t'.1 = t.1 → t'.2.2.1 = t.2.2.1 → t'.2.1 = t.2.1 → hx_E t' a b (fun r j => E (if r = x then y else if r = y then x else r) j) → Q t') : wqX5_swapRows_c31 K t (nI x) (nI y) Q := by
  obtain ⟨K, rfl⟩ : ∃ K', K = K' + 1 := ⟨K - 1, by omega⟩
  obtain ⟨ha, hb, hab, ea, eb⟩ := hM
  refine hb_sw_go (A := t.1) (B := t.2.2.1) (J := t.2.1) (E := E) ha hb hab eb hx hy hQ 64 0 K t _ (by omega) (by omega) rfl rfl rfl (hx_E_of hE (fun r k _ _ => ?_)) rfl rfl rfl
  show E r k = E (if k < 0 then _ else r) k
  rw [if_neg (by omega)]
theorem hb_mp_go {A : Nat → Int32} {B : Nat → Nat → Int32} {J : Nat → Int64} {a b x c : Nat} {E : Nat → Nat → Int} {lj : Nat → Int64} {Q : XT → Prop} (ha : a < 64) (hb : b < 64) (hab : a * b ≤ 900) (eb : A 11 = nI b) (hx : x < a) (hB : ∀ j, c ≤ j → j < b → E x j * E x j ≤ 2305843009213693952) (hQ : ∀ t', t'.1 = A → t'.2.2.1 = B → t'.2.1 = J → hx_E t' a b (fun r j => if r = x ∧ c ≤ j then -E r j else E r j) → Q t') :
    ∀ (d j K : Nat) (t : XT) (li : Nat → Int32), j + d = 64 → c ≤ j → d + 5 ≤ K → t.1 = A → t.2.2.1 = B → t.2.1 = J → hx_E t a b (fun r k => if r = x ∧ c ≤ k ∧ k < j then -E r k else E r k) → li 1 = nI x → li 3 = nI j → wpX5_makePositive K 1 t li lj Q := by
  have fin : ∀ (j : Nat) (t : XT), b ≤ j → t.1 = A → t.2.2.1 = B → t.2.1 = J → hx_E t a b (fun r k => if r = x ∧ c ≤ k ∧ k < j then -E r k else E r k) → Q t := by
    intro j t h eA eB eJ hE
    refine hQ t eA eB eJ (hx_E_of hE (fun r k hr hk => ?_))
    show (if r = x ∧ c ≤ k ∧ k < j then -E r k else E r k) = if r = x ∧ c ≤ k then -E r k else E r k
    by_cases q : r = x ∧ c ≤ k
    · rw [if_pos q, if_pos ⟨q.1, q.2, by omega⟩]
    · rw [if_neg q, if_neg (fun z => q ⟨z.1, z.2.1⟩)]
  intro d
  induction d with
  | zero =>
    intro j K t li hd hcj hK eA eB eJ hE e1 e3
    obtain ⟨K, rfl⟩ : ∃ K', K = K' + 1 := ⟨K - 1, by omega⟩
    have eb : t.1 11 = nI b := by rw [eA]; exact eb
    show wbX5_makePositive_1 (wpX5_makePositive K) K t li lj Q
    exact ⟨fun _ => fin j t (by omega) eA eB eJ hE, fun x => absurd (by rw [eb, e3]; exact nI_le (by omega) (by omega)) x⟩
  | succ d ih =>
    intro j K t li hd hcj hK eA eB eJ hE e1 e3
    obtain ⟨K, rfl⟩ : ∃ K', K = K' + 1 := ⟨K - 1, by omega⟩
    have eb : t.1 11 = nI b := by rw [eA]; exact eb
    show wbX5_makePositive_1 (wpX5_makePositive K) K t li lj Q
    unfold wbX5_makePositive_1
    rw [eb, e1, e3]
    refine ⟨fun ge => fin j t ((nI_leI (by omega) (by omega)).mp ge) eA eB eJ hE, fun lt v7 f7 v8 f8 v9 f9 v10 f10 => ?_⟩
    have hj : j < b := Nat.lt_of_not_le (fun q => lt (nI_le q (by omega)))
    have f8 := hz_cellI f7 f8
    have f10 := hz_cellI f9 f10
    subst f8 f10
    have hxj := hx_at hx hj hab
    refine ⟨vp_in_nI hxj (by decide), fun v11 e11 v12 e12 => ⟨vp_in_nI hxj (by decide), fun t13 e13 v14 e14 => ?_⟩⟩
    rw [nI_clamp (by omega)] at e11 e13
    have g11 : v11.toInt = E x j := by
      rw [e11, hE x j hx hj]
      exact if_neg (fun z => by omega)
    have s := hx_small (hB j hcj hj)
    have g12 : v12.toInt = -E x j := by
      rw [e12, Int64.toInt_neg, g11]; exact Int.bmod_eq_of_le (by omega) (by omega)
    refine ih (j + 1) K t13 _ (by omega) (by omega) (by omega) (by rw [e13]; exact eA) (by rw [e13]; exact eB) (by rw [e13]; exact eJ) ?_ e1 (by show v14 = _; rw [e14]; exact hs_inc j)
    rw [e13]
    refine hx_E_of (hx_E_put (x := x) hE hj g12) (fun r k hr hk => ?_)
    show (if r = x ∧ k = j then -E x j else if r = x ∧ c ≤ k ∧ k < j then -E r k else E r k) = if r = x ∧ c ≤ k ∧ k < j + 1 then -E r k else E r k
    by_cases q : r = x ∧ k = j
    · rw [if_pos q, if_pos ⟨q.1, by omega, by omega⟩, q.1, q.2]
    · rw [if_neg q]
      by_cases q2 : r = x ∧ c ≤ k ∧ k < j
      · rw [if_pos q2, if_pos ⟨q2.1, q2.2.1, by omega⟩]
      · rw [if_neg q2, if_neg (fun z => q2 ⟨z.1, z.2.1, by
          have : ¬ k = j := fun h => q ⟨z.1, h⟩
          omega⟩)]
theorem hb_makePositive {t : XT} {a b x c K : Nat} {E : Nat → Nat → Int} {Q : XT → Prop} (hM : hx_ab t a b) (hx : x < a) (hc : c < b) (hE : hx_E t a b E) (hB : ∀ j, c ≤ j → j < b → E x j * E x j ≤ 2305843009213693952) (hK : 100 ≤ K) (h1 : ∀ t', t'.1 = t.1 → t'.2.2.1 = t.2.2.1 → t'.2.1 = t.2.1 → hx_E t' a b (fun r j => if r = x ∧ c ≤ j then -E r j else E r j) → E x c ≤ 0 → Q t') (h0 : 0 < E x c → Q t) : wqX5_makePositive K t (nI x) (nI c) Q := by
  obtain ⟨K, rfl⟩ : ∃ K', K = K' + 1 := ⟨K - 1, by omega⟩
  obtain ⟨ha, hb, hab, ea, eb⟩ := hM
  show wbX5_makePositive_0 (wpX5_makePositive K) K t (uI (uI (fun _ => 0) 1 (nI x)) 2 (nI c)) (fun _ => 0) Q
  unfold wbX5_makePositive_0
  rw [eb]
  intro v1 f1 v2 f2
  have f2 := hz_cellI f1 f2
  subst f2
  have hxc := hx_at hx hc hab
  refine ⟨vp_in_nI hxc (by decide), fun v3 e3 v4 e4 => ?_⟩
  rw [nI_clamp (by omega)] at e3
  have g3 : v3.toInt = E x c := by rw [e3]; exact hE x c hx hc
  have key : v4 ≤ 0 ↔ E x c ≤ 0 := by
    rw [e4, ← g3]
    unfold lg_cmp
    by_cases h : v3 > 0
    · rw [if_pos h]
      have := hz_pos64.mp h
      exact ⟨fun q => absurd q (by decide), fun q => by omega⟩
    · rw [if_neg h]
      have : ¬ 0 < v3.toInt := fun q => h (hz_pos64.mpr q)
      refine ⟨fun _ => by omega, fun _ => ?_⟩
      by_cases h2 : v3 = 0
      · rw [if_pos h2]; decide
      · rw [if_neg h2]; decide
  refine ⟨fun le => ?_, fun nle => h0 (by have : ¬ E x c ≤ 0 := fun q => nle (key.mpr q); omega)⟩
  refine hb_mp_go (B := t.2.2.1) (J := t.2.1) ha hb hab eb hx hB (fun t' a1 a2 a3 a4 => h1 t' a1 a2 a3 a4 (key.mp le)) (64 - c) c K t _ (by omega) (Nat.le_refl c) (by omega) rfl rfl rfl (hx_E_of hE (fun r k _ _ => ?_)) rfl rfl
  show E r k = if r = x ∧ c ≤ k ∧ k < c then -E r k else E r k
  rw [if_neg (fun z => by omega)]
theorem hb_fR_go {t : XT} {a b c f : Nat} {E : Nat → Nat → Int} {lj : Nat → Int64} {Q : Int32 → XT → Prop} (hM : hx_ab t a b) (hE : hx_E t a b E) (hc : c < b) (h1 : ∀ r, f ≤ r → r < a → E r c ≠ 0 → Q (nI r) t) (h0 : (∀ r, f ≤ r → r < a → E r c = 0) → Q (-1) t) :
    ∀ (d r K : Nat) (li : Nat → Int32), r + d = 64 → d + 5 ≤ K → f ≤ r → (∀ k, f ≤ k → k < r → k < a → E k c = 0) → li 2 = nI c → li 3 = nI r → wpX5_firstRow K 1 t li lj Q := by
  obtain ⟨ha, hb, hab, ea, eb⟩ := hM
  intro d
  induction d with
  | zero =>
    intro r K li hd hK hf hz e2 e3
    obtain ⟨K, rfl⟩ : ∃ K', K = K' + 1 := ⟨K - 1, by omega⟩
    show wbX5_firstRow_1 (wpX5_firstRow K) K t li lj Q
    exact ⟨fun _ => h0 (fun k k1 k2 => hz k k1 (by omega) k2), fun x => absurd (by rw [ea, e3]; exact nI_le (by omega) (by omega)) x⟩
  | succ d ih =>
    intro r K li hd hK hf hz e2 e3
    obtain ⟨K, rfl⟩ : ∃ K', K = K' + 1 := ⟨K - 1, by omega⟩
    show wbX5_firstRow_1 (wpX5_firstRow K) K t li lj Q
    unfold wbX5_firstRow_1
    rw [ea, eb, e2, e3]
    refine ⟨fun ge => h0 (fun k k1 k2 => hz k k1 (by have := (nI_leI (by omega) (by omega)).mp ge; omega) k2), fun lt v2 f2 v3 f3 => ?_⟩
    have hr : r < a := Nat.lt_of_not_le (fun q => lt (nI_le q (by omega)))
    have f3 := hz_cellI f2 f3
    subst f3
    have hrc := hx_at hr hc hab
    refine ⟨vp_in_nI hrc (by decide), fun v4 e4 v5 e5 => ?_⟩
    rw [nI_clamp (by omega)] at e4
    have g4 : v4.toInt = E r c := by rw [e4]; exact hE r c hr hc
    refine ⟨fun z v7 e7 => ih (r + 1) K _ (by omega) (by omega) (by omega) (fun k k1 k2 k3 => ?_) e2 (by show v7 = _; rw [e7]; exact hs_inc r), fun nz => h1 r hf hr (fun q => nz ?_)⟩
    · by_cases q : k = r
      · rw [q, ← g4, (hs_cmp0 _ _).mp (e5.symm.trans z)]; rfl
      · exact hz k k1 (by omega) k3
    · rw [e5]
      refine (hs_cmp0 _ _).mpr (Int64.toInt_inj.mp ?_)
      rw [g4, q]; rfl
theorem hb_firstRow {t : XT} {a b c f K : Nat} {E : Nat → Nat → Int} {Q : Int32 → XT → Prop} (hM : hx_ab t a b) (hE : hx_E t a b E) (hf : f < 64) (hc : c < b) (hK : 100 ≤ K) (h1 : ∀ r, f ≤ r → r < a → E r c ≠ 0 → Q (nI r) t) (h0 : (∀ r, f ≤ r → r < a → E r c = 0) → Q (-1) t) : wqX5_firstRow K t (nI f) (nI c) Q := by
  obtain ⟨K, rfl⟩ : ∃ K', K = K' + 1 := ⟨K - 1, by omega⟩
  exact hb_fR_go hM hE hc h1 h0 (64 - f) f K _ (by omega) (by omega) (Nat.le_refl f) (fun k k1 k2 _ => absurd k1 (by omega)) rfl rfl
