/-! ===== reference, pure: onlyOver just, drawnOf, openDim, laysChoices ===== -/
theorem hq_rem64 {x a : Int64} (hx : 0 ≤ x.toInt) (ha : 0 < a.toInt) : (x - x / a * a).toInt = x.toInt % a.toInt := by
  have b2 := Int64.toInt_lt x
  have q0 : 0 ≤ x.toInt / a.toInt := Int.ediv_nonneg hx (Int.le_of_lt ha)
  have q1 : x.toInt / a.toInt ≤ x.toInt := Int.ediv_le_self _ hx
  have q2 : x.toInt / a.toInt * a.toInt ≤ x.toInt := Int.ediv_mul_le _ (by omega)
  have q3 : 0 ≤ x.toInt / a.toInt * a.toInt := Int.mul_nonneg q0 (Int.le_of_lt ha)
  have e1 : (x / a).toInt = x.toInt / a.toInt := by
    rw [Int64.toInt_div, Int.tdiv_eq_ediv_of_nonneg hx]
    exact Int.bmod_eq_of_le (by omega) (by omega)
  have e2 : (x / a * a).toInt = x.toInt / a.toInt * a.toInt := by
    rw [Int64.toInt_mul, e1]; exact Int.bmod_eq_of_le (by omega) (by omega)
  rw [Int64.toInt_sub, e2, Int.emod_def, Int.mul_comm a.toInt]
  exact Int.bmod_eq_of_le (by omega) (by omega)
theorem hq_rem32 {x a : Int32} (hx : 0 ≤ x.toInt) (ha : 0 < a.toInt) : (x - x / a * a).toInt = x.toInt % a.toInt := by
  have b2 := Int32.toInt_lt x
  have q0 : 0 ≤ x.toInt / a.toInt := Int.ediv_nonneg hx (Int.le_of_lt ha)
  have q1 : x.toInt / a.toInt ≤ x.toInt := Int.ediv_le_self _ hx
  have q2 : x.toInt / a.toInt * a.toInt ≤ x.toInt := Int.ediv_mul_le _ (by omega)
  have q3 : 0 ≤ x.toInt / a.toInt * a.toInt := Int.mul_nonneg q0 (Int.le_of_lt ha)
  have e1 : (x / a).toInt = x.toInt / a.toInt := by
    rw [Int32.toInt_div, Int.tdiv_eq_ediv_of_nonneg hx]
    exact Int.bmod_eq_of_le (by omega) (by omega)
  have e2 : (x / a * a).toInt = x.toInt / a.toInt * a.toInt := by
    rw [Int32.toInt_mul, e1]; exact Int.bmod_eq_of_le (by omega) (by omega)
  rw [Int32.toInt_sub, e2, Int.emod_def, Int.mul_comm a.toInt]
  exact Int.bmod_eq_of_le (by omega) (by omega)
theorem hq_drawnOf {t : XT} {c K : Nat} {Q : Int32 → XT → Prop} (hx : 0 ≤ t.1 8) (hc : 0 < c) (hc60 : c ≤ 60) (hK : 1 ≤ K) (hQ : ∀ (v : Int32) (j : Nat), 0 ≤ v → j < c → Q (nI j) (sI t 8 v)) : wqX12_drawnOf K t (nI c) Q := by
  obtain ⟨K, rfl⟩ : ∃ K', K = K' + 1 := ⟨K - 1, by omega⟩
  show wbX12_drawnOf_0 (wpX12_drawnOf K) K t (uI (fun _ => 0) 1 (nI c)) (fun _ => 0) Q
  have hX : (0 : Int32).toInt ≤ (t.1 8).toInt := Int32.le_iff_toInt_le.mp hx
  have hX : 0 ≤ (t.1 8).toInt := hX
  have hX2 := Int32.toInt_lt (t.1 8)
  have k1 : (1103515245 : Int64).toInt = 1103515245 := by decide
  have k2 : (12345 : Int64).toInt = 12345 := by decide
  have k3 : (2147483648 : Int64).toInt = 2147483648 := by decide
  have k4 : (65536 : Int32).toInt = 65536 := by decide
  intro v1 e1 v2 e2 v3 e3
  have f1 : v1.toInt = (t.1 8).toInt := by rw [e1]; exact Int32.toInt_toInt64 _
  have f2 : v2.toInt = (t.1 8).toInt * 1103515245 := by
    rw [e2, Int64.toInt_mul, f1, k1]
    exact Int.bmod_eq_of_le (by omega) (by omega)
  have f3 : v3.toInt = (t.1 8).toInt * 1103515245 + 12345 := by
    rw [e3, Int64.toInt_add, f2, k2]
    exact Int.bmod_eq_of_le (by omega) (by omega)
  refine ⟨by decide, fun v4 e4 v5 e5 t6 e6 => ⟨by decide, fun v7 e7 => ⟨?_, fun v8 e8 => ?_⟩⟩⟩
  · show ¬ nI c = 0
    intro q
    have := (nI_eq (a := c) (b := 0) (by omega) (by omega)).mp q
    omega
  · have f4 : v4.toInt = v3.toInt % 2147483648 := by
      rw [e4, hq_rem64 (by omega) (by omega), k3]
    have f5 : v5.toInt = v3.toInt % 2147483648 := by
      rw [e5, Int64.toInt_toInt32, f4]; exact Int.bmod_eq_of_le (by omega) (by omega)
    have h5 : 0 ≤ v5 := Int32.le_iff_toInt_le.mpr (show (0 : Int) ≤ v5.toInt by omega)
    subst e6
    have e7 : v7 = v5 / 65536 := e7
    have f7 : v7.toInt = v5.toInt / 65536 := by
      rw [e7, Int32.toInt_div, Int.tdiv_eq_ediv_of_nonneg (by omega), k4]; exact Int.bmod_eq_of_le (by omega) (by omega)
    have e8 : v8 = v7 - v7 / nI c * nI c := e8
    have kc : (nI c).toInt = (c : Int) := nI_toInt (by omega)
    have f8 : v8.toInt = v7.toInt % (c : Int) := by
      rw [e8, hq_rem32 (by omega) (by omega), kc]
    have g1 : 0 ≤ v7.toInt % (c : Int) := Int.emod_nonneg _ (by omega)
    have g2 : v7.toInt % (c : Int) < (c : Int) := Int.emod_lt_of_pos _ (by omega)
    obtain ⟨r, hr⟩ : ∃ r, r = v7.toInt % (c : Int) := ⟨_, rfl⟩
    rw [← hr] at f8 g1 g2
    have e : v8 = nI r.toNat := by
      refine Int32.toInt_inj.mp ?_
      rw [nI_toInt (by omega), f8]
      omega
    rw [e]
    exact hQ v5 _ h5 (by omega)
/-- one OPEN one, and one alone, that f is a face of -/
def hq_one (t : XT) (m f s : Nat) : Prop := s < m ∧ t.2.2.1 9 s ≠ 0 ∧ hm_face t f s ∧ ∀ s', s' < m → t.2.2.1 9 s' ≠ 0 → hm_face t f s' → s' = s
theorem hq_only2_go {t : XT} {m f : Nat} {lj : Nat → Int64} {Q : Int32 → XT → Prop} (hm : t.1 3 = nI m) (hm60 : m ≤ 60) (hf : f < m)
    (h1 : ∀ s, hq_one t m f s → Q (nI s) t) (h0 : (∀ s, ¬ hq_one t m f s) → Q (-1) t) :
    ∀ (d c K : Nat) (li : Nat → Int32), c + d = m → 2 * d + 6 ≤ K → li 1 = nI f → li 3 = nI c →
      ((li 2 = -1 ∧ ∀ s', s' < c → t.2.2.1 9 s' ≠ 0 → ¬ hm_face t f s') ∨ ∃ s, s < c ∧ li 2 = nI s ∧ t.2.2.1 9 s ≠ 0 ∧ hm_face t f s ∧ ∀ s', s' < c → t.2.2.1 9 s' ≠ 0 → hm_face t f s' → s' = s) →
      wpX12_onlyOver K 1 t li lj Q := by
  intro d
  induction d with
  | zero =>
    intro c K li hd hK e1 e3 hs
    obtain ⟨K, rfl⟩ : ∃ K', K = K' + 1 := ⟨K - 1, by omega⟩
    obtain rfl : c = m := by omega
    show wbX12_onlyOver_1 (wpX12_onlyOver K) K t li lj Q
    refine ⟨fun _ => ?_, fun x => absurd (by rw [hm, e3]; exact nI_le (by omega) (by omega)) x⟩
    rcases hs with ⟨a, b⟩ | ⟨s, b1, b2, b3, b4, b5⟩
    · rw [a]; exact h0 (fun s hs => b s hs.1 hs.2.1 hs.2.2.1)
    · rw [b2]; exact h1 s ⟨b1, b3, b4, b5⟩
  | succ d ih =>
    intro c K li hd hK e1 e3 hs
    obtain ⟨K, rfl⟩ : ∃ K', K = K' + 2 := ⟨K - 2, by omega⟩
    have cc : (nI c).toNatClampNeg = c := nI_clamp (by omega)
    have nx : ∀ li' : Nat → Int32, li' 1 = nI f → li' 3 = nI c → ((li' 2 = -1 ∧ ∀ s', s' < c + 1 → t.2.2.1 9 s' ≠ 0 → ¬ hm_face t f s') ∨ ∃ s, s < c + 1 ∧ li' 2 = nI s ∧ t.2.2.1 9 s ≠ 0 ∧ hm_face t f s ∧ ∀ s', s' < c + 1 → t.2.2.1 9 s' ≠ 0 → hm_face t f s' → s' = s) → wpX12_onlyOver (K + 1) 2 t li' lj Q := by
      intro li' a1 a3 as
      show wbX12_onlyOver_2 (wpX12_onlyOver K) K t li' lj Q
      intro v e
      have e : v = nI (c + 1) := by rw [e, a3]; exact hs_inc c
      exact ih (c + 1) K (uI li' 3 v) (by omega) (by omega) a1 e as
    have same : (t.2.2.1 9 c = 0 ∨ ¬ hm_face t f c) → wpX12_onlyOver (K + 1) 2 t li lj Q := by
      intro no
      have not : ∀ s', s' = c → t.2.2.1 9 s' ≠ 0 → hm_face t f s' → False := by
        intro s' e a b
        rcases no with z | z
        · exact a (e ▸ z)
        · exact z (e ▸ b)
      refine nx li e1 e3 ?_
      rcases hs with ⟨a, b⟩ | ⟨s, b1, b2, b3, b4, b5⟩
      · refine Or.inl ⟨a, fun s' hs' o fc => ?_⟩
        by_cases x : s' < c
        · exact b s' x o fc
        · exact not s' (by omega) o fc
      · refine Or.inr ⟨s, by omega, b2, b3, b4, fun s' hs' o fc => ?_⟩
        by_cases x : s' < c
        · exact b5 s' x o fc
        · exact (not s' (by omega) o fc).elim
    show wbX12_onlyOver_1 (wpX12_onlyOver (K + 1)) (K + 1) t li lj Q
    unfold wbX12_onlyOver_1
    rw [e1, e3]
    refine ⟨fun x => absurd (show t.1 3 ≤ nI c from x) (by rw [hm]; exact nI_ge (by omega) (by omega)), fun _ => ⟨vp_in_nI (by omega) (by decide), fun v2 e2 => ?_⟩⟩
    rw [cc] at e2
    refine ⟨fun z => same (Or.inl (e2.symm.trans z)), fun z => ?_⟩
    have oc : t.2.2.1 9 c ≠ 0 := fun q => z (e2.trans q)
    refine hm_isFace (by omega) (by omega) (by omega) (fun fc => ?_) (fun no => ⟨fun _ => same (Or.inr no), fun c => absurd rfl c⟩)
    refine ⟨fun c => absurd c (by decide), fun _ => ⟨fun y => ?_, fun y => ?_⟩⟩
    · refine nx (uI li 2 (nI c)) e1 e3 (Or.inr ⟨c, by omega, rfl, oc, fc, fun s' hs' o fc' => ?_⟩)
      by_cases x : s' < c
      · rcases hs with ⟨_, b⟩ | ⟨s, b1, b2, b3, b4, b5⟩
        · exact absurd fc' (b s' x o)
        · rw [b2] at y
          exact absurd y (hs_nI_neg (by omega))
      · omega
    · rcases hs with ⟨a, _⟩ | ⟨s, b1, b2, b3, b4, b5⟩
      · exact absurd a y
      · refine h0 (fun u hu => ?_)
        have u1 := hu.2.2.2 c (by omega) oc fc
        have u2 := hu.2.2.2 s (by omega) b3 b4
        omega
theorem hq_only2 {t : XT} {m f K : Nat} {Q : Int32 → XT → Prop} (hm : t.1 3 = nI m) (hm60 : m ≤ 60) (hf : f < m) (hK : 200 ≤ K)
    (h1 : ∀ s, hq_one t m f s → Q (nI s) t) (h0 : (∀ s, ¬ hq_one t m f s) → Q (-1) t) : wqX12_onlyOver K t (nI f) Q := by
  obtain ⟨K, rfl⟩ : ∃ K', K = K' + 1 := ⟨K - 1, by omega⟩
  exact hq_only2_go (lj := fun _ => 0) hm hm60 hf h1 h0 m 0 K (uI (uI (uI (fun _ => 0) 1 (nI f)) 2 (-1)) 3 0) (by omega) (by omega) rfl rfl (Or.inl ⟨rfl, fun s' hs' => absurd hs' (by omega)⟩)
theorem hq_openDim_go {t : XT} {m : Nat} {lj : Nat → Int64} {Q : Int32 → XT → Prop} (hm : t.1 3 = nI m) (hm60 : m ≤ 60)
    (h1 : ∀ k, k < m → t.2.2.1 9 k ≠ 0 → Q (hm_dim t k) t) (h0 : Q (-1) t) :
    ∀ (d c K : Nat) (li : Nat → Int32), c + d = m → 2 * d + 6 ≤ K → li 2 = nI c → (li 1 = -1 ∨ ∃ k, k < m ∧ t.2.2.1 9 k ≠ 0 ∧ li 1 = hm_dim t k) → wpX12_openDim K 1 t li lj Q := by
  intro d
  induction d with
  | zero =>
    intro c K li hd hK e2 hs
    obtain ⟨K, rfl⟩ : ∃ K', K = K' + 1 := ⟨K - 1, by omega⟩
    show wbX12_openDim_1 (wpX12_openDim K) K t li lj Q
    refine ⟨fun _ => ?_, fun x => absurd (by rw [hm, e2]; exact nI_le (by omega) (by omega)) x⟩
    rcases hs with a | ⟨k, b1, b2, b3⟩
    · rw [a]; exact h0
    · rw [b3]; exact h1 k b1 b2
  | succ d ih =>
    intro c K li hd hK e2 hs
    obtain ⟨K, rfl⟩ : ∃ K', K = K' + 2 := ⟨K - 2, by omega⟩
    have cc : (nI c).toNatClampNeg = c := nI_clamp (by omega)
    have nx : ∀ v : Int32, (v = -1 ∨ ∃ k, k < m ∧ t.2.2.1 9 k ≠ 0 ∧ v = hm_dim t k) → wpX12_openDim (K + 1) 2 t (uI li 100 v) lj Q := by
      intro v hv
      show wbX12_openDim_2 (wpX12_openDim K) K t (uI li 100 v) lj Q
      intro w e
      have e : w = nI (c + 1) := by rw [e]; show li 2 + Int32.ofInt 1 = _; rw [e2]; exact hs_inc c
      exact ih (c + 1) K _ (by omega) (by omega) e hv
    show wbX12_openDim_1 (wpX12_openDim (K + 1)) (K + 1) t li lj Q
    unfold wbX12_openDim_1
    rw [e2]
    refine ⟨fun x => absurd (show t.1 3 ≤ nI c from x) (by rw [hm]; exact nI_ge (by omega) (by omega)), fun _ => ⟨vp_in_nI (by omega) (by decide), fun v2 f2 => ?_⟩⟩
    rw [cc] at f2
    refine ⟨fun _ => nx _ hs, fun z => ?_⟩
    refine hm_dimOf (by omega) (by omega) (fun v5 e5 => ?_)
    rw [e5]
    refine nx _ ?_
    by_cases y : li 1 < hm_dim t c
    · rw [if_pos y]; exact Or.inr ⟨c, by omega, fun q => z (f2.trans q), rfl⟩
    · rw [if_neg y]; exact hs
theorem hq_openDim {t : XT} {m K : Nat} {Q : Int32 → XT → Prop} (hm : t.1 3 = nI m) (hm60 : m ≤ 60) (hK : 200 ≤ K)
    (h1 : ∀ k, k < m → t.2.2.1 9 k ≠ 0 → Q (hm_dim t k) t) (h0 : Q (-1) t) : wqX12_openDim K t Q := by
  obtain ⟨K, rfl⟩ : ∃ K', K = K' + 2 := ⟨K - 2, by omega⟩
  show wbX12_openDim_0 (wpX12_openDim (K + 1)) (K + 1) t (fun _ => 0) (fun _ => 0) Q
  exact hq_openDim_go hm hm60 h1 h0 m 0 (K + 1) _ (by omega) (by omega) rfl (Or.inl rfl)
def hq_pick (t : XT) (m : Nat) (b d : Int32) (k : Nat) : Prop := (b = 0 ∧ hm_dim t k = d) ∨ (¬ b = 0 ∧ ∃ s, hq_one t m k s)
theorem hq_choices_go {t : XT} {m : Nat} {b d : Int32} {lj : Nat → Int64} {Q : Int32 → XT → Prop} (hm : t.1 3 = nI m) (hm60 : m ≤ 60)
    (hQ : ∀ c G, c ≤ m → (∀ j, j < c → ∃ k, k < m ∧ G j = nI k ∧ t.2.2.1 9 k ≠ 0 ∧ hq_pick t m b d k) → (∀ k, k < m → t.2.2.1 9 k ≠ 0 → hq_pick t m b d k → 0 < c) → Q (nI c) (sA t 12 G)) :
    ∀ (n i K c : Nat) (li G : Nat → Int32), i + n = m → c ≤ i → 3 * n + 210 ≤ K → li 1 = b → li 2 = d → li 3 = nI c → li 4 = nI i →
      (∀ j, j < c → ∃ k, k < m ∧ G j = nI k ∧ t.2.2.1 9 k ≠ 0 ∧ hq_pick t m b d k) → (∀ k, k < i → t.2.2.1 9 k ≠ 0 → hq_pick t m b d k → 0 < c) → wpX12_laysChoices K 1 (sA t 12 G) li lj Q := by
  intro n
  induction n with
  | zero =>
    intro i K c li G hn hc hK e1 e2 e3 e4 hG hN
    obtain ⟨K, rfl⟩ : ∃ K', K = K' + 1 := ⟨K - 1, by omega⟩
    obtain rfl : i = m := by omega
    show wbX12_laysChoices_1 (wpX12_laysChoices K) K (sA t 12 G) li lj Q
    refine ⟨fun _ => ?_, fun x => absurd (show t.1 3 ≤ li 4 by rw [hm, e4]; exact nI_le (by omega) (by omega)) x⟩
    rw [e3]; exact hQ c G hc hG hN
  | succ n ih =>
    intro i K c li G hn hc hK e1 e2 e3 e4 hG hN
    obtain ⟨K, rfl⟩ : ∃ K', K = K' + 3 := ⟨K - 3, by omega⟩
    have ci : (nI i).toNatClampNeg = i := nI_clamp (by omega)
    have nx : ∀ (K2 c' : Nat) (li' G' : Nat → Int32), K + 1 ≤ K2 → c' ≤ i + 1 → li' 1 = b → li' 2 = d → li' 3 = nI c' → li' 4 = nI i →
        (∀ j, j < c' → ∃ k, k < m ∧ G' j = nI k ∧ t.2.2.1 9 k ≠ 0 ∧ hq_pick t m b d k) → (∀ k, k < i + 1 → t.2.2.1 9 k ≠ 0 → hq_pick t m b d k → 0 < c') → wpX12_laysChoices K2 3 (sA t 12 G') li' lj Q := by
      intro K2 c' li' G' h1 h2 a1 a2 a3 a4 a5 a6
      obtain ⟨K2, rfl⟩ : ∃ K', K2 = K' + 1 := ⟨K2 - 1, by omega⟩
      show wbX12_laysChoices_3 (wpX12_laysChoices K2) K2 (sA t 12 G') li' lj Q
      intro v e
      exact ih (i + 1) K2 c' (uI li' 4 v) G' (by omega) h2 (by omega) a1 a2 a3 (by show v = _; rw [e, a4]; exact hs_inc i) a5 a6
    have no : ∀ K2, K + 1 ≤ K2 → (t.2.2.1 9 i = 0 ∨ ¬ hq_pick t m b d i) → wpX12_laysChoices K2 3 (sA t 12 G) li lj Q := by
      intro K2 h1 h2
      refine nx K2 c li G h1 (by omega) e1 e2 e3 e4 hG (fun k hk o pk => ?_)
      by_cases x : k < i
      · exact hN k x o pk
      · obtain rfl : k = i := by omega
        rcases h2 with z | z
        · exact absurd z o
        · exact absurd pk z
    have yes : t.2.2.1 9 i ≠ 0 → hq_pick t m b d i → wpX12_laysChoices (K + 2) 2 (sA t 12 G) li lj Q := by
      intro o pk
      show wbX12_laysChoices_2 (wpX12_laysChoices (K + 1)) (K + 1) (sA t 12 G) li lj Q
      unfold wbX12_laysChoices_2
      rw [e3, e4]
      refine ⟨vp_in_nI (by omega) (by decide), fun t9 e9 v10 e10 => ?_⟩
      rw [nI_clamp (show c < 2 ^ 31 by omega), hm_sAA] at e9
      rw [e9]
      refine nx (K + 1) (c + 1) _ _ (by omega) (by omega) e1 e2 (e10.trans (hs_inc c)) e4 (fun j hj => ?_) (fun _ _ _ _ => Nat.succ_pos _)
      by_cases x : j = c
      · exact ⟨i, by omega, if_pos x, o, pk⟩
      · obtain ⟨k, k1, k2, k3⟩ := hG j (by omega)
        exact ⟨k, k1, (if_neg x).trans k2, k3⟩
    show wbX12_laysChoices_1 (wpX12_laysChoices (K + 2)) (K + 2) (sA t 12 G) li lj Q
    unfold wbX12_laysChoices_1
    rw [e1, e2, e4]
    refine ⟨fun x => absurd (show t.1 3 ≤ nI i from x) (by rw [hm]; exact nI_ge (by omega) (by omega)), fun _ => ⟨vp_in_nI (by omega) (by decide), fun v2 f2 => ?_⟩⟩
    rw [ci] at f2
    have f2 : v2 = t.2.2.1 9 i := f2
    refine ⟨fun z => no _ (by omega) (Or.inl (f2.symm.trans z)), fun z => ?_⟩
    have o : t.2.2.1 9 i ≠ 0 := fun q => z (f2.trans q)
    refine ⟨fun b0 => ?_, fun b0 => ?_⟩
    · refine hm_dimOf (t := sA t 12 G) (by omega) (by omega) ⟨fun y => no _ (by omega) (Or.inr (fun pk => ?_)), fun y => yes o (Or.inl ⟨b0, y⟩)⟩
      rcases pk with ⟨_, p⟩ | ⟨p, _⟩
      · exact y p
      · exact p b0
    · refine hq_only2 (t := sA t 12 G) (m := m) hm hm60 (by omega) (by omega) (fun s hs => ⟨fun y => absurd y (hs_nI_neg (by have := hs.1; omega)), fun _ => yes o (Or.inr ⟨b0, s, hs⟩)⟩) (fun hs => ⟨fun _ => no _ (by omega) (Or.inr (fun pk => ?_)), fun y => absurd rfl y⟩)
      rcases pk with ⟨p, _⟩ | ⟨_, s, p⟩
      · exact b0 p
      · exact hs s p
theorem hq_choices {t : XT} {m K : Nat} {b d : Int32} {Q : Int32 → XT → Prop} (hm : t.1 3 = nI m) (hm60 : m ≤ 60) (hK : 500 ≤ K)
    (hQ : ∀ c G, c ≤ m → (∀ j, j < c → ∃ k, k < m ∧ G j = nI k ∧ t.2.2.1 9 k ≠ 0 ∧ hq_pick t m b d k) → (∀ k, k < m → t.2.2.1 9 k ≠ 0 → hq_pick t m b d k → 0 < c) → Q (nI c) (sA t 12 G)) : wqX12_laysChoices K t b d Q := by
  obtain ⟨K, rfl⟩ : ∃ K', K = K' + 2 := ⟨K - 2, by omega⟩
  have g := hq_choices_go (lj := fun _ => 0) hm hm60 hQ m 0 (K + 1) 0 (uI (uI (uI (uI (fun _ => 0) 1 b) 2 d) 3 0) 4 0) (t.2.2.1 12) (by omega) (by omega) (by omega) rfl rfl rfl rfl (fun j hj => absurd hj (by omega)) (fun k hk => absurd hk (by omega))
  rw [hm_sA0] at g
  exact g
