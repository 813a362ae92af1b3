/-! ===== the reference, without the machine: leaves, exactly (m simplices, m <= 60) ===== -/
def hm_bc (v : Int32) : Int32 :=
  let v3 := v - ((v.toUInt32 >>> ((1 : Int32).toUInt32 &&& Int32.toUInt32 31)).toInt32 &&& 1431655765)
  let v7 := (v3 &&& 858993459) + ((v3.toUInt32 >>> ((2 : Int32).toUInt32 &&& Int32.toUInt32 31)).toInt32 &&& 858993459)
  let v10 := (v7 + (v7.toUInt32 >>> ((4 : Int32).toUInt32 &&& Int32.toUInt32 31)).toInt32) &&& 252645135
  let v12 := v10 + (v10.toUInt32 >>> ((8 : Int32).toUInt32 &&& Int32.toUInt32 31)).toInt32
  let v14 := v12 + (v12.toUInt32 >>> ((16 : Int32).toUInt32 &&& Int32.toUInt32 31)).toInt32
  v14 &&& 63
theorem hm_bitCount {K : Nat} {v : Int32} {Q : Int32 → Prop} (hK : 1 ≤ K) (h : Q (hm_bc v)) : wqJ6_bitCount_0f7a4 K v Q := by
  obtain ⟨K, rfl⟩ : ∃ K', K = K' + 1 := ⟨K - 1, by omega⟩
  show wbJ6_bitCount_0f7a4_0 (wpJ6_bitCount_0f7a4 K) K (uI (fun _ => 0) 0 v) (fun _ => 0) Q
  intro v1 e1 v2 e2 v3 e3 v4 e4 v5 e5 v6 e6 v7 e7 v8 e8 v9 e9 v10 e10 v11 e11 v12 e12 v13 e13 v14 e14 v15 e15
  subst e1 e2 e3 e4 e5 e6 e7 e8 e9 e10 e11 e12 e13 e14 e15
  exact h
theorem hm_truth {K : Nat} {a : Int32} {Q : Int32 → Prop} (hK : 1 ≤ K) (h : Q (if a = 0 then 0 else 1)) : wqX12_truth K a Q := by
  have g := q_truth (K - 1) a Q h
  rw [show K - 1 + 1 = K by omega] at g
  exact g
theorem hm_in {K : Nat} {v lo hi : Int32} {Q : Int32 → Prop} (hK : 2 ≤ K) (h : Q (if lo ≤ v ∧ v ≤ hi then 1 else 0)) : wqX12_in K v lo hi Q := by
  have g := q_in (K - 2) v lo hi Q h
  rw [show K - 2 + 2 = K by omega] at g
  exact g
/-- a number of a simplex, as an argument: it is one, or it is none -/
theorem hm_num {m : Nat} (hm : m ≤ 60) (a : Int32) : (∃ j, j < m ∧ a = nI j ∧ (0 ≤ a ∧ a ≤ nI m - 1)) ∨ ((∀ j, j < m → a ≠ nI j) ∧ ¬ (0 ≤ a ∧ a ≤ nI m - 1)) := by
  have e : (nI m - 1).toInt = (m : Int) - 1 := by
    rw [Int32.toInt_sub, nI_toInt (by omega)]
    show ((m : Int) - 1).bmod (2 ^ 32) = (m : Int) - 1
    exact Int.bmod_eq_of_le (by omega) (by omega)
  by_cases h : 0 ≤ a ∧ a ≤ nI m - 1
  · refine Or.inl ?_
    have h1 := Int32.le_iff_toInt_le.mp h.1
    have h2 := Int32.le_iff_toInt_le.mp h.2
    rw [e] at h2
    have h1 : 0 ≤ a.toInt := h1
    refine ⟨a.toInt.toNat, by omega, Int32.toInt_inj.mp ?_, h⟩
    rw [nI_toInt (by omega)]
    omega
  · refine Or.inr ⟨fun j hj q => h ?_, h⟩
    rw [q]
    refine ⟨nI_pos' (by omega), Int32.le_iff_toInt_le.mpr ?_⟩
    rw [e, nI_toInt (by omega)]
    omega
theorem hm_isSimplex {K m : Nat} {t : XT} {a : Int32} {Q : Int32 → XT → Prop} (hm : t.1 3 = nI m) (hK : 3 ≤ K) (h : Q (if 0 ≤ a ∧ a ≤ nI m - 1 then 1 else 0) t) : wqX12_isSimplex K t a Q := by
  have g := q_isSimplex (K - 3) t a Q (by rw [hm]; exact h)
  rw [show K - 3 + 3 = K by omega] at g
  exact g
def hm_let (t : XT) (k : Nat) : Int32 := t.2.2.1 2 k
def hm_par (t : XT) (k : Nat) : Int32 := t.2.2.1 4 k
def hm_gone (t : XT) (k : Nat) : Int32 := t.2.2.1 5 k
def hm_dim (t : XT) (k : Nat) : Int32 := hm_bc (hm_let t k) - 1
def hm_face (t : XT) (f s : Nat) : Prop := hm_dim t s = hm_dim t f + 1 ∧ hm_let t f &&& (hm_let t s ^^^ (-1)) = 0
def hm_faceT (t : XT) (f s : Nat) : Prop := hm_gone t f = 0 ∧ hm_gone t s = 0 ∧ hm_face t f s
def hm_crit (t : XT) (k : Nat) : Prop := hm_gone t k = 0 ∧ hm_par t k = -1
def hm_low (t : XT) (k : Nat) : Prop := hm_par t k ≠ -1 ∧ nI k < hm_par t k
theorem hm_isThere {K m : Nat} {t : XT} {a : Int32} {Q : Int32 → XT → Prop} (hm : t.1 3 = nI m) (hm60 : m ≤ 60) (hK : 5 ≤ K) (h1 : ∀ j, j < m → a = nI j → hm_gone t j = 0 → Q 1 t) (h0 : (∀ j, j < m → a = nI j → ¬ hm_gone t j = 0) → Q 0 t) : wqX12_isThere K t a Q := by
  obtain ⟨K, rfl⟩ : ∃ K', K = K' + 1 := ⟨K - 1, by omega⟩
  have out : (∀ j, j < m → a = nI j → ¬ hm_gone t j = 0) → wpX12_isThere K 1 t (uI (fun _ => 0) 1 a) (fun _ => 0) Q := by
    intro q
    obtain ⟨K, rfl⟩ : ∃ K', K = K' + 1 := ⟨K - 1, by omega⟩
    exact h0 q
  show wbX12_isThere_0 (wpX12_isThere K) K t (uI (fun _ => 0) 1 a) (fun _ => 0) Q
  refine hm_isSimplex (a := a) hm (by omega) ?_
  rcases hm_num hm60 a with ⟨j, hj, e, hin⟩ | ⟨no, hin⟩
  · rw [if_pos hin]
    refine ⟨fun c => absurd c (by decide), fun _ => ?_⟩
    show vp_in a 60 ∧ _
    subst e
    refine ⟨vp_in_nI (by omega) (by decide), fun v3 e3 => ?_⟩
    have e3 : v3 = hm_gone t j := e3.trans (congrArg (t.2.2.1 5) (nI_clamp (by omega)))
    refine ⟨fun c => out (fun j' hj' e' z => ?_), fun c => h1 j hj rfl (e3 ▸ c)⟩
    obtain rfl := (nI_eq (by omega) (by omega)).mp e'
    exact c (e3.trans z)
  · rw [if_neg hin]
    exact ⟨fun _ => out (fun j hj e => absurd e (no j hj)), fun c => absurd rfl c⟩
theorem hm_dimOf {K k : Nat} {t : XT} {Q : Int32 → XT → Prop} (hk : k < 60) (hK : 2 ≤ K) (h : Q (hm_dim t k) t) : wqX12_dimOf K t (nI k) Q := by
  obtain ⟨K, rfl⟩ : ∃ K', K = K' + 1 := ⟨K - 1, by omega⟩
  show wbX12_dimOf_0 (wpX12_dimOf K) K t (uI (fun _ => 0) 1 (nI k)) (fun _ => 0) Q
  refine ⟨vp_in_nI hk (by decide), fun v1 e1 => hm_bitCount (by omega) (fun v3 e3 => ?_)⟩
  have e1 : v1 = hm_let t k := e1.trans (congrArg (t.2.2.1 2) (nI_clamp (by omega)))
  subst e3 e1
  exact h
theorem hm_isFace {K f s : Nat} {t : XT} {Q : Int32 → XT → Prop} (hf : f < 60) (hs : s < 60) (hK : 4 ≤ K) (h1 : hm_face t f s → Q 1 t) (h0 : ¬ hm_face t f s → Q 0 t) : wqX12_isFace K t (nI f) (nI s) Q := by
  obtain ⟨K, rfl⟩ : ∃ K', K = K' + 1 := ⟨K - 1, by omega⟩
  have out : ¬ hm_face t f s → wpX12_isFace K 1 t (uI (uI (fun _ => 0) 1 (nI f)) 2 (nI s)) (fun _ => 0) Q := by
    intro q
    obtain ⟨K, rfl⟩ : ∃ K', K = K' + 1 := ⟨K - 1, by omega⟩
    exact h0 q
  show wbX12_isFace_0 (wpX12_isFace K) K t (uI (uI (fun _ => 0) 1 (nI f)) 2 (nI s)) (fun _ => 0) Q
  refine hm_dimOf hs (by omega) (hm_dimOf hf (by omega) (fun v3 e3 => ?_))
  subst e3
  refine ⟨fun c => out (fun q => c q.1), fun c => ⟨vp_in_nI hf (by decide), fun v5 e5 => ⟨vp_in_nI hs (by decide), fun v6 e6 v7 e7 v8 e8 => ?_⟩⟩⟩
  have e5 : v5 = hm_let t f := e5.trans (congrArg (t.2.2.1 2) (nI_clamp (by omega)))
  have e6 : v6 = hm_let t s := e6.trans (congrArg (t.2.2.1 2) (nI_clamp (by omega)))
  subst e8 e7 e5 e6
  exact ⟨fun d => out (fun q => d q.2), fun d => h1 ⟨c, d⟩⟩
theorem hm_isFaceThere {K f s : Nat} {t : XT} {Q : Int32 → XT → Prop} (hf : f < 60) (hs : s < 60) (hK : 6 ≤ K) (h1 : hm_faceT t f s → Q 1 t) (h0 : ¬ hm_faceT t f s → Q 0 t) : wqX12_isFaceThere K t (nI f) (nI s) Q := by
  obtain ⟨K, rfl⟩ : ∃ K', K = K' + 1 := ⟨K - 1, by omega⟩
  have out : ¬ hm_faceT t f s → wpX12_isFaceThere K 1 t (uI (uI (fun _ => 0) 1 (nI f)) 2 (nI s)) (fun _ => 0) Q := by
    intro q
    obtain ⟨K, rfl⟩ : ∃ K', K = K' + 1 := ⟨K - 1, by omega⟩
    exact h0 q
  show wbX12_isFaceThere_0 (wpX12_isFaceThere K) K t (uI (uI (fun _ => 0) 1 (nI f)) 2 (nI s)) (fun _ => 0) Q
  refine ⟨vp_in_nI hf (by decide), fun v1 e1 => ?_⟩
  have e1 : v1 = hm_gone t f := e1.trans (congrArg (t.2.2.1 5) (nI_clamp (by omega)))
  subst e1
  refine ⟨fun c => out (fun q => c q.1), fun c => ⟨vp_in_nI hs (by decide), fun v3 e3 => ?_⟩⟩
  have e3 : v3 = hm_gone t s := e3.trans (congrArg (t.2.2.1 5) (nI_clamp (by omega)))
  subst e3
  refine ⟨fun d => out (fun q => d q.2.1), fun d => ?_⟩
  exact hm_isFace hf hs (by omega) (fun y => ⟨fun z => absurd z (by decide), fun _ => h1 ⟨c, d, y⟩⟩) (fun y => ⟨fun _ => out (fun q => y q.2.2), fun z => absurd rfl z⟩)
def hm_sign (t : XT) (f s : Nat) : Int32 := if hm_bc (hm_let t s &&& ((hm_let t s &&& (hm_let t f ^^^ (-1))) - 1)) - hm_bc (hm_let t s &&& ((hm_let t s &&& (hm_let t f ^^^ (-1))) - 1)) / 2 * 2 = 0 then 1 else -1
theorem hm_signOf {K f s : Nat} {t : XT} {Q : Int32 → XT → Prop} (hf : f < 60) (hs : s < 60) (hK : 2 ≤ K) (h : Q (hm_sign t f s) t) : wqX12_signOf K t (nI f) (nI s) Q := by
  obtain ⟨K, rfl⟩ : ∃ K', K = K' + 1 := ⟨K - 1, by omega⟩
  show wbX12_signOf_0 (wpX12_signOf K) K t (uI (uI (fun _ => 0) 1 (nI f)) 2 (nI s)) (fun _ => 0) Q
  refine ⟨vp_in_nI hs (by decide), fun v1 e1 => ⟨vp_in_nI hf (by decide), fun v2 e2 v3 e3 v4 e4 => ⟨vp_in_nI hs (by decide), fun v5 e5 v6 e6 v7 e7 => ?_⟩⟩⟩
  have e1 : v1 = hm_let t s := e1.trans (congrArg (t.2.2.1 2) (nI_clamp (by omega)))
  have e5 : v5 = hm_let t s := e5.trans (congrArg (t.2.2.1 2) (nI_clamp (by omega)))
  have e2 : v2 = hm_let t f := e2.trans (congrArg (t.2.2.1 2) (nI_clamp (by omega)))
  subst e7 e6 e4 e3 e1 e5 e2
  refine hm_bitCount (by omega) ⟨by decide, fun v9 e9 => ?_⟩
  subst e9
  unfold hm_sign at h
  refine ⟨fun c => ?_, fun c => ?_⟩
  · rw [if_neg c] at h; exact h
  · rw [if_pos c] at h; exact h
theorem hm_isCritical {K m : Nat} {t : XT} {a : Int32} {Q : Int32 → XT → Prop} (hm : t.1 3 = nI m) (hm60 : m ≤ 60) (hK : 7 ≤ K) (h1 : ∀ j, j < m → a = nI j → hm_crit t j → Q 1 t) (h0 : (∀ j, j < m → a = nI j → ¬ hm_crit t j) → Q 0 t) : wqX12_isCritical K t a Q := by
  obtain ⟨K, rfl⟩ : ∃ K', K = K' + 1 := ⟨K - 1, by omega⟩
  have out : (∀ j, j < m → a = nI j → ¬ hm_crit t j) → wpX12_isCritical K 1 t (uI (fun _ => 0) 1 a) (fun _ => 0) Q := by
    intro q
    obtain ⟨K, rfl⟩ : ∃ K', K = K' + 1 := ⟨K - 1, by omega⟩
    exact h0 q
  show wbX12_isCritical_0 (wpX12_isCritical K) K t (uI (fun _ => 0) 1 a) (fun _ => 0) Q
  refine hm_isThere hm hm60 (by omega) (fun j hj e g => ?_) (fun no => ?_)
  · refine ⟨fun c => absurd c (by decide), fun _ => ?_⟩
    show vp_in a 60 ∧ _
    subst e
    refine ⟨vp_in_nI (by omega) (by decide), fun v3 e3 => ?_⟩
    have e3 : v3 = hm_par t j := e3.trans (congrArg (t.2.2.1 4) (nI_clamp (by omega)))
    refine ⟨fun c => out (fun j' hj' e' z => ?_), fun c => h1 j hj rfl ⟨g, e3 ▸ c⟩⟩
    obtain rfl := (nI_eq (by omega) (by omega)).mp e'
    exact c (e3.trans z.2)
  · exact ⟨fun _ => out (fun j hj e z => no j hj e z.1), fun c => absurd rfl c⟩
theorem hm_isLower {K k : Nat} {t : XT} {Q : Int32 → XT → Prop} (hk : k < 60) (hK : 2 ≤ K) (h1 : hm_low t k → Q 1 t) (h0 : ¬ hm_low t k → Q 0 t) : wqX12_isLower K t (nI k) Q := by
  obtain ⟨K, rfl⟩ : ∃ K', K = K' + 1 := ⟨K - 1, by omega⟩
  have out : ¬ hm_low t k → wpX12_isLower K 1 t (uI (fun _ => 0) 1 (nI k)) (fun _ => 0) Q := by
    intro q
    obtain ⟨K, rfl⟩ : ∃ K', K = K' + 1 := ⟨K - 1, by omega⟩
    exact h0 q
  show wbX12_isLower_0 (wpX12_isLower K) K t (uI (fun _ => 0) 1 (nI k)) (fun _ => 0) Q
  refine ⟨vp_in_nI hk (by decide), fun v1 e1 => ?_⟩
  have e1 : v1 = hm_par t k := e1.trans (congrArg (t.2.2.1 4) (nI_clamp (by omega)))
  subst e1
  refine ⟨fun c => out (fun q => q.1 c), fun c => ⟨vp_in_nI hk (by decide), fun v3 e3 => ?_⟩⟩
  have e3 : v3 = hm_par t k := e3.trans (congrArg (t.2.2.1 4) (nI_clamp (by omega)))
  subst e3
  exact ⟨fun d => out (fun q => absurd q.2 (Int32.not_lt.mpr d)), fun d => h1 ⟨c, Int32.not_le.mp d⟩⟩
