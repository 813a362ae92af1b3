/-! ===== reference, pure: link, root (letters as numbers below 256) ===== -/
theorem hq_or (a b : Nat) : nI a ||| nI b = nI (a ||| b) := by
  refine Int32.toBitVec_inj.mp (BitVec.eq_of_toNat_eq ?_)
  show (BitVec.ofNat 32 a ||| BitVec.ofNat 32 b).toNat = (BitVec.ofNat 32 (a ||| b)).toNat
  rw [BitVec.toNat_or, BitVec.toNat_ofNat, BitVec.toNat_ofNat, BitVec.toNat_ofNat, Nat.or_mod_two_pow]
/-- the letters, and the numbers of sets of letters: all that a COMPLEX tells -/
def hq_geo (t : XT) (m : Nat) : Prop :=
  (∀ k, k < m → ∃ a, 0 < a ∧ a < 256 ∧ hm_let t k = nI a) ∧
  (∀ a, a < 256 → 0 < m → t.2.2.1 3 a = -1 ∨ ∃ k, k < m ∧ t.2.2.1 3 a = nI k ∧ hm_let t k = nI a) ∧
  (∀ k a b, k < m → a < 256 → hm_let t k = nI a → 0 < b → b &&& a = b → ∃ j, j < m ∧ t.2.2.1 3 b = nI j ∧ hm_let t j = nI b)
theorem hq_link_in {t : XT} {m k : Nat} {lj : Nat → Int64} {Q : Int32 → XT → Prop} (hm : t.1 3 = nI m) (hm60 : m ≤ 60) (hg : hq_geo t m) (hk : k < m) (hQ : ∀ r, Q r t) :
    ∀ (d i K : Nat) (li : Nat → Int32), i + d = m → 3 * d + 20 ≤ K → li 1 = nI k → li 4 = nI i → wpX12_link K 2 t li lj Q := by
  intro d
  induction d with
  | zero =>
    intro i K li hd hK e1 e4
    obtain ⟨K, rfl⟩ : ∃ K', K = K' + 1 := ⟨K - 1, by omega⟩
    show wbX12_link_2 (wpX12_link K) K t li lj Q
    exact ⟨fun _ => hQ _, fun x => absurd (by rw [hm, e4]; exact nI_le (by omega) (by omega)) x⟩
  | succ d ih =>
    intro i K li hd hK e1 e4
    obtain ⟨K, rfl⟩ : ∃ K', K = K' + 3 := ⟨K - 3, by omega⟩
    have ci : (nI i).toNatClampNeg = i := nI_clamp (by omega)
    have ck : (nI k).toNatClampNeg = k := nI_clamp (by omega)
    have four : ∀ (K2 : Nat) (li' : Nat → Int32), K + 1 ≤ K2 → li' 1 = nI k → li' 4 = nI i → wpX12_link K2 4 t li' lj Q := by
      intro K2 li' h a1 a4
      obtain ⟨K2, rfl⟩ : ∃ K', K2 = K' + 1 := ⟨K2 - 1, by omega⟩
      show wbX12_link_4 (wpX12_link K2) K2 t li' lj Q
      intro v e
      exact ih (i + 1) K2 (uI li' 4 v) (by omega) (by omega) a1 (by show v = _; rw [e, a4]; exact hs_inc i)
    have three : ∀ (li' : Nat → Int32), li' 1 = nI k → li' 4 = nI i → wpX12_link (K + 2) 3 t li' lj Q := by
      intro li' a1 a4
      show wbX12_link_3 (wpX12_link (K + 1)) (K + 1) t li' lj Q
      exact fun v _ => four (K + 1) _ (by omega) a1 a4
    have no := four (K + 2) li (by omega) e1 e4
    obtain ⟨x, x0, x1, x2⟩ := hg.1 k hk
    obtain ⟨y, y0, y1, y2⟩ := hg.1 i (by omega)
    show wbX12_link_2 (wpX12_link (K + 2)) (K + 2) t li lj Q
    unfold wbX12_link_2
    rw [e1, e4]
    refine ⟨fun z => absurd (show t.1 3 ≤ nI i from z) (by rw [hm]; exact nI_ge (by omega) (by omega)), fun _ => ?_⟩
    refine hm_isThere (a := nI i) hm hm60 (by omega) (fun _ _ _ _ => ⟨fun z => absurd z (by decide), fun _ => ?_⟩) (fun _ => ⟨fun _ => no, fun z => absurd rfl z⟩)
    refine ⟨vp_in_nI (by omega) (by decide), fun v8 e8 => ⟨vp_in_nI (by omega) (by decide), fun v9 e9 v10 e10 => ⟨fun _ => ?_, fun _ => no⟩⟩⟩
    refine ⟨vp_in_nI (by omega) (by decide), fun v12 e12 => ⟨vp_in_nI (by omega) (by decide), fun v13 e13 v14 e14 => ?_⟩⟩
    have e12 : v12 = nI y := e12.trans ((congrArg (t.2.2.1 2) ci).trans y2)
    have e13 : v13 = nI x := e13.trans ((congrArg (t.2.2.1 2) ck).trans x2)
    have e14 : v14 = nI (y ||| x) := by rw [e14, e12, e13]; exact hq_or y x
    have lt : y ||| x < 256 := Nat.or_lt_two_pow (n := 8) y1 x1
    rw [e14]
    refine ⟨vp_in_nI lt (by decide), fun v15 e15 => ⟨fun _ => no, fun _ => ?_⟩⟩
    refine hm_isThere (a := v15) hm hm60 (by omega) (fun _ _ _ _ => ⟨fun z => absurd z (by decide), fun _ => ?_⟩) (fun _ => ⟨fun _ => no, fun z => absurd rfl z⟩)
    exact ⟨fun _ => hq_alternating (by omega) (by omega) (fun r => three _ e1 e4), fun _ => three _ e1 e4⟩
theorem hq_link {t : XT} {m K : Nat} {a b : Int32} {Q : Int32 → XT → Prop} (hm : t.1 3 = nI m) (hm60 : m ≤ 60) (hg : hq_geo t m) (hK : 300 ≤ K) (hQ : ∀ r, Q r t) : wqX12_link K t a b Q := by
  obtain ⟨K, rfl⟩ : ∃ K', K = K' + 1 := ⟨K - 1, by omega⟩
  have out : wpX12_link K 1 t (uI (uI (fun _ => 0) 1 a) 2 b) (fun _ => 0) Q := by
    obtain ⟨K, rfl⟩ : ∃ K', K = K' + 1 := ⟨K - 1, by omega⟩
    exact hQ _
  show wbX12_link_0 (wpX12_link K) K t (uI (uI (fun _ => 0) 1 a) 2 b) (fun _ => 0) Q
  refine hm_isThere (a := a) hm hm60 (by omega) (fun k hk ea _ => ⟨fun z => absurd z (by decide), fun _ => ?_⟩) (fun _ => ⟨fun _ => out, fun z => absurd rfl z⟩)
  refine hm_in (by omega) ⟨fun _ => ?_, fun _ => out⟩
  exact hq_link_in hm hm60 hg hk hQ m 0 K _ (by omega) (by omega) ea rfl
theorem hq_bc0 : ∀ a, a < 256 → 0 < a → hm_bc (nI a) ≠ 0 := by decide +kernel
/-- an edge without one of its letters is the other one -/
def hq_edgeC (a b : Nat) : Prop := b - a < 256 ∧ 0 < b - a ∧ nI b &&& (nI a ^^^ (-1)) = nI (b - a) ∧ hm_bc (nI (b - a)) = 1 ∧ b - a ≠ a ∧ nI (b - a) &&& (nI b ^^^ (-1)) = 0 ∧ (b - a) &&& b = b - a
def hq_edgeB (a b : Nat) : Bool := if hm_bc (nI b) = 2 then (if nI a &&& (nI b ^^^ (-1)) = 0 then (decide (b - a < 256) && decide (0 < b - a) && decide (nI b &&& (nI a ^^^ (-1)) = nI (b - a)) && decide (hm_bc (nI (b - a)) = 1) && decide (b - a ≠ a) && decide (nI (b - a) &&& (nI b ^^^ (-1)) = 0) && decide ((b - a) &&& b = b - a)) else true) else true
def hq_allB (p : Nat → Bool) : Nat → Bool
  | 0 => true
  | n + 1 => p n && hq_allB p n
theorem hq_allB_at {p : Nat → Bool} : ∀ n : Nat, hq_allB p n = true → ∀ b, b < n → p b = true := by
  intro n
  induction n with
  | zero => intro _ b hb; omega
  | succ n ih =>
    intro h b hb
    have h : (p n && hq_allB p n) = true := h
    rw [Bool.and_eq_true] at h
    by_cases x : b = n
    · rw [x]; exact h.1
    · exact ih h.2 b (by omega)
def hq_edgeA (a : Nat) : Bool := if hm_bc (nI a) = 1 then hq_allB (hq_edgeB a) 256 else true
theorem hq_edgeK : hq_allB hq_edgeA 256 = true := by decide +kernel
theorem hq_edge0 (a : Nat) (ha : a < 256) (h1 : hm_bc (nI a) = 1) (b : Nat) (hb : b < 256) (h2 : hm_bc (nI b) = 2) (h3 : nI a &&& (nI b ^^^ (-1)) = 0) : hq_edgeC a b := by
  have k := hq_allB_at 256 hq_edgeK a ha
  unfold hq_edgeA at k
  rw [if_pos h1] at k
  have k2 := hq_allB_at 256 k b hb
  unfold hq_edgeB at k2
  rw [if_pos h2, if_pos h3] at k2
  rw [Bool.and_eq_true, Bool.and_eq_true, Bool.and_eq_true, Bool.and_eq_true, Bool.and_eq_true, Bool.and_eq_true] at k2
  obtain ⟨⟨⟨⟨⟨⟨a1, a2⟩, a3⟩, a4⟩, a5⟩, a6⟩, a7⟩ := k2
  exact ⟨of_decide_eq_true a1, of_decide_eq_true a2, of_decide_eq_true a3, of_decide_eq_true a4, of_decide_eq_true a5, of_decide_eq_true a6, of_decide_eq_true a7⟩
theorem hq_edge (a : Nat) (ha : a < 256) (h1 : hm_bc (nI a) = 1) (b : Nat) (hb : b < 256) (h2 : hm_bc (nI b) = 2) (h3 : nI a &&& (nI b ^^^ (-1)) = 0) :
    ∃ c, c < 256 ∧ 0 < c ∧ nI b &&& (nI a ^^^ (-1)) = nI c ∧ hm_bc (nI c) = 1 ∧ c ≠ a ∧ nI c &&& (nI b ^^^ (-1)) = 0 ∧ c &&& b = c := ⟨b - a, hq_edge0 a ha h1 b hb h2 h3⟩
theorem hq_root_go {t : XT} {m : Nat} {δ : Nat → Nat} {lj : Nat → Int64} {Q : Int32 → XT → Prop} (hm60 : m ≤ 60) (hg : hq_geo t m) (hM : hm_match t m)
    (d2 : ∀ f g, f < m → g < m → hm_low t f → hm_low t g → g ≠ f → hm_on t f g → δ g < δ f) (hQ : ∀ r, Q r t) :
    ∀ (u i K : Nat) (li : Nat → Int32), i < m → hm_bc (hm_let t i) = 1 → (hm_low t i → δ i < u) → u + 2 ≤ K → li 3 = nI i → wpX12_root K 2 t li lj Q := by
  intro u
  induction u with
  | zero =>
    intro i K li hi hb hu hK e3
    obtain ⟨K, rfl⟩ : ∃ K', K = K' + 1 := ⟨K - 1, by omega⟩
    have ci : (nI i).toNatClampNeg = i := nI_clamp (by omega)
    show wbX12_root_2 (wpX12_root K) K t li lj Q
    unfold wbX12_root_2
    rw [e3]
    refine ⟨vp_in_nI (by omega) (by decide), fun v7 e7 => ⟨fun _ => ⟨fun _ => hQ _, fun _ => hQ _⟩, fun np => ?_⟩⟩
    have e7 : v7 = hm_par t i := e7.trans (congrArg (t.2.2.1 4) ci)
    exfalso
    rcases hM i hi with q | ⟨p, hp, ep, ep2, ⟨lt, fc⟩ | ⟨lt, fc⟩⟩
    · exact np (e7.trans q)
    · exact absurd (hu ((hm_low_iff (by omega) (by omega) ep).mpr lt)) (by omega)
    · obtain ⟨x, x0, x1, x2⟩ := hg.1 p hp
      have z := fc.1
      unfold hm_dim at z
      rw [hb, x2] at z
      refine hq_bc0 x x1 x0 ?_
      have z2 : hm_bc (nI x) - 1 + 1 = (1 : Int32) - 1 := z.symm
      rw [Int32.sub_add_cancel] at z2
      exact z2.trans (by decide)
  | succ u ih =>
    intro i K li hi hb hu hK e3
    obtain ⟨K, rfl⟩ : ∃ K', K = K' + 1 := ⟨K - 1, by omega⟩
    have ci : (nI i).toNatClampNeg = i := nI_clamp (by omega)
    show wbX12_root_2 (wpX12_root K) K t li lj Q
    unfold wbX12_root_2
    rw [e3]
    refine ⟨vp_in_nI (by omega) (by decide), fun v7 e7 => ⟨fun _ => ⟨fun _ => hQ _, fun _ => hQ _⟩, fun np => ?_⟩⟩
    have e7 : v7 = hm_par t i := e7.trans (congrArg (t.2.2.1 4) ci)
    refine ⟨vp_in_nI (by omega) (by decide), fun v10 e10 => ?_⟩
    have e10 : v10 = hm_par t i := e10.trans (congrArg (t.2.2.1 4) ci)
    rcases hM i hi with q | ⟨p, hp, ep, ep2, ⟨lt, fc⟩ | ⟨lt, fc⟩⟩
    · exact absurd (e7.trans q) np
    · have e10 : v10 = nI p := e10.trans ep
      subst e10
      have cp : (nI p).toNatClampNeg = p := nI_clamp (by omega)
      refine ⟨vp_in_nI (by omega) (by decide), fun v11 e11 => ⟨vp_in_nI (by omega) (by decide), fun v12 e12 v13 e13 v14 e14 => ?_⟩⟩
      obtain ⟨x, x0, x1, x2⟩ := hg.1 i hi
      obtain ⟨y, y0, y1, y2⟩ := hg.1 p hp
      have e11 : v11 = nI y := e11.trans ((congrArg (t.2.2.1 2) cp).trans y2)
      have e12 : v12 = nI x := e12.trans ((congrArg (t.2.2.1 2) ci).trans x2)
      have z1 := fc.1
      have z2 := fc.2
      unfold hm_dim at z1
      rw [hb, y2] at z1
      rw [x2, y2] at z2
      rw [x2] at hb
      have b2 : hm_bc (nI y) = 2 := by
        have w : hm_bc (nI y) - 1 + 1 = (1 : Int32) - 1 + 1 + 1 := congrArg (· + 1) z1
        rw [Int32.sub_add_cancel] at w
        exact w.trans (by decide)
      obtain ⟨c, c1, c0, c2, c3, c4, c5, c6⟩ := hq_edge x x1 hb y y1 b2 z2
      have e14 : v14 = nI c := by rw [e14, e13, e11, e12]; exact c2
      subst e14
      obtain ⟨j, hj, j1, j2⟩ := hg.2.2 p y c hp y1 y2 c0 c6
      have cc : (nI c).toNatClampNeg = c := nI_clamp (by omega)
      refine ⟨vp_in_nI c1 (by decide), fun v15 e15 v16 _ => ?_⟩
      have e15 : v15 = nI j := e15.trans ((congrArg (t.2.2.1 3) cc).trans j1)
      refine ih j K _ hj (by rw [j2]; exact c3) (fun lo => ?_) (by omega) e15
      have li' := (hm_low_iff (by omega) (by omega) ep).mpr lt
      have ne : j ≠ i := by
        intro q
        rw [q, x2] at j2
        exact c4 ((nI_eq (by omega) (by omega)).mp j2).symm
      have fj : hm_face t j p := by
        refine ⟨?_, by rw [j2, y2]; exact c5⟩
        unfold hm_dim
        rw [j2, y2, c3, b2]; decide
      have dl := d2 i j hi hj li' lo ne ⟨p, by omega, ep, fj⟩
      have du := hu li'
      omega
    · obtain ⟨x, x0, x1, x2⟩ := hg.1 p hp
      have z := fc.1
      unfold hm_dim at z
      rw [hb, x2] at z
      refine absurd ?_ (hq_bc0 x x1 x0)
      have z2 : hm_bc (nI x) - 1 + 1 = (1 : Int32) - 1 := z.symm
      rw [Int32.sub_add_cancel] at z2
      exact z2.trans (by decide)
theorem hq_root {t : XT} {m n K : Nat} {a b : Int32} {Q : Int32 → XT → Prop} (hI : hq_inv t m n) (hg : hq_geo t m) (hK : 100 ≤ K) (hQ : ∀ r, Q r t) : wqX12_root K t a b Q := by
  obtain ⟨K, rfl⟩ : ∃ K', K = K' + 1 := ⟨K - 1, by omega⟩
  have hm := hI.1
  have hm60 := hI.2.1
  have out : wpX12_root K 1 t (uI (uI (fun _ => 0) 1 a) 2 b) (fun _ => 0) Q := by
    obtain ⟨K, rfl⟩ : ∃ K', K = K' + 1 := ⟨K - 1, by omega⟩
    exact hQ _
  show wbX12_root_0 (wpX12_root K) K t (uI (uI (fun _ => 0) 1 a) 2 b) (fun _ => 0) Q
  refine hm_isThere (a := a) hm hm60 (by omega) (fun k hk ea _ => ⟨fun z => absurd z (by decide), fun _ => ?_⟩) (fun _ => ⟨fun _ => out, fun z => absurd rfl z⟩)
  have ea : a = nI k := ea
  subst ea
  refine hm_dimOf (by omega) (by omega) ⟨fun _ => out, fun ed => ?_⟩
  refine hm_in (by omega) ⟨fun _ => ?_, fun _ => out⟩
  obtain ⟨δ, d1, d2⟩ := hI.2.2.2.2.1
  have hb : hm_bc (hm_let t k) = 1 := by
    have w : hm_bc (hm_let t k) - 1 + 1 = (0 : Int32) + 1 := congrArg (· + 1) ed
    rw [Int32.sub_add_cancel] at w
    exact w.trans (by decide)
  exact hq_root_go hm60 hg hI.2.2.2.1 d2 hQ 60 k K _ hk hb (fun lo => d1 k hk lo) (by omega) rfl
