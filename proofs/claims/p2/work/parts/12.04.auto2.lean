/-! ===== reference, pure: onlyOver, closes, opensAll; AUTO 2 ends and is ACYCLIC by the order of closing ===== -/
theorem hq_only_go {t : XT} {m f : Nat} {lj : Nat → Int64} {Q : Int32 → XT → Prop} (hm : t.1 3 = nI m) (hm60 : m ≤ 60) (hf : f < m)
    (h1 : ∀ s, s < m → t.2.2.1 9 s ≠ 0 → hm_face t f s → (∀ s', s' < m → t.2.2.1 9 s' ≠ 0 → hm_face t f s' → s' = s) → Q (nI s) t) (h0 : Q (-1) t) :
    ∀ (d c K : Nat) (li : Nat → Int32), c + d = m → 2 * d + 6 ≤ K → li 1 = nI f → li 3 = nI c →
      ((li 2 = -1 ∧ ∀ s', s' < c → t.2.2.1 9 s' ≠ 0 → ¬ hm_face t f s') ∨ ∃ s, s < c ∧ li 2 = nI s ∧ t.2.2.1 9 s ≠ 0 ∧ hm_face t f s ∧ ∀ s', s' < c → t.2.2.1 9 s' ≠ 0 → hm_face t f s' → s' = s) →
      wpX12_onlyOver K 1 t li lj Q := by
  intro d
  induction d with
  | zero =>
    intro c K li hd hK e1 e3 hs
    obtain ⟨K, rfl⟩ : ∃ K', K = K' + 1 := ⟨K - 1, by omega⟩
    obtain rfl : c = m := by omega
    show wbX12_onlyOver_1 (wpX12_onlyOver K) K t li lj Q
    refine ⟨fun _ => ?_, fun x => absurd (by rw [hm, e3]; exact nI_le (by omega) (by omega)) x⟩
    rcases hs with ⟨a, _⟩ | ⟨s, b1, b2, b3, b4, b5⟩
    · rw [a]; exact h0
    · rw [b2]; exact h1 s b1 b3 b4 b5
  | succ d ih =>
    intro c K li hd hK e1 e3 hs
    obtain ⟨K, rfl⟩ : ∃ K', K = K' + 2 := ⟨K - 2, by omega⟩
    have cc : (nI c).toNatClampNeg = c := nI_clamp (by omega)
    have nx : ∀ li' : Nat → Int32, li' 1 = nI f → li' 3 = nI c → ((li' 2 = -1 ∧ ∀ s', s' < c + 1 → t.2.2.1 9 s' ≠ 0 → ¬ hm_face t f s') ∨ ∃ s, s < c + 1 ∧ li' 2 = nI s ∧ t.2.2.1 9 s ≠ 0 ∧ hm_face t f s ∧ ∀ s', s' < c + 1 → t.2.2.1 9 s' ≠ 0 → hm_face t f s' → s' = s) → wpX12_onlyOver (K + 1) 2 t li' lj Q := by
      intro li' a1 a3 as
      show wbX12_onlyOver_2 (wpX12_onlyOver K) K t li' lj Q
      intro v e
      have e : v = nI (c + 1) := by rw [e, a3]; exact hs_inc c
      exact ih (c + 1) K (uI li' 3 v) (by omega) (by omega) a1 e as
    have same : (t.2.2.1 9 c = 0 ∨ ¬ hm_face t f c) → wpX12_onlyOver (K + 1) 2 t li lj Q := by
      intro no
      have not : ∀ s', s' = c → t.2.2.1 9 s' ≠ 0 → hm_face t f s' → False := by
        intro s' e a b
        rcases no with z | z
        · exact a (e ▸ z)
        · exact z (e ▸ b)
      refine nx li e1 e3 ?_
      rcases hs with ⟨a, b⟩ | ⟨s, b1, b2, b3, b4, b5⟩
      · refine Or.inl ⟨a, fun s' hs' o fc => ?_⟩
        by_cases x : s' < c
        · exact b s' x o fc
        · exact not s' (by omega) o fc
      · refine Or.inr ⟨s, by omega, b2, b3, b4, fun s' hs' o fc => ?_⟩
        by_cases x : s' < c
        · exact b5 s' x o fc
        · exact (not s' (by omega) o fc).elim
    show wbX12_onlyOver_1 (wpX12_onlyOver (K + 1)) (K + 1) t li lj Q
    unfold wbX12_onlyOver_1
    rw [e1, e3]
    refine ⟨fun x => absurd (show t.1 3 ≤ nI c from x) (by rw [hm]; exact nI_ge (by omega) (by omega)), fun _ => ⟨vp_in_nI (by omega) (by decide), fun v2 e2 => ?_⟩⟩
    rw [cc] at e2
    refine ⟨fun z => same (Or.inl (e2.symm.trans z)), fun z => ?_⟩
    refine hm_isFace (by omega) (by omega) (by omega) (fun fc => ?_) (fun no => ⟨fun _ => same (Or.inr no), fun c => absurd rfl c⟩)
    refine ⟨fun c => absurd c (by decide), fun _ => ⟨fun y => ?_, fun _ => h0⟩⟩
    refine nx (uI li 2 (nI c)) e1 e3 (Or.inr ⟨c, by omega, rfl, fun q => z (e2.trans q), fc, fun s' hs' o fc' => ?_⟩)
    by_cases x : s' < c
    · rcases hs with ⟨_, b⟩ | ⟨s, b1, b2, b3, b4, b5⟩
      · exact absurd fc' (b s' x o)
      · rw [b2] at y
        exact absurd y (hs_nI_neg (by omega))
    · omega
theorem hq_onlyOver {t : XT} {m f K : Nat} {Q : Int32 → XT → Prop} (hm : t.1 3 = nI m) (hm60 : m ≤ 60) (hf : f < m) (hK : 200 ≤ K)
    (h1 : ∀ s, s < m → t.2.2.1 9 s ≠ 0 → hm_face t f s → (∀ s', s' < m → t.2.2.1 9 s' ≠ 0 → hm_face t f s' → s' = s) → Q (nI s) t) (h0 : Q (-1) t) : wqX12_onlyOver K t (nI f) Q := by
  obtain ⟨K, rfl⟩ : ∃ K', K = K' + 1 := ⟨K - 1, by omega⟩
  exact hq_only_go (lj := fun _ => 0) hm hm60 hf h1 h0 m 0 K (uI (uI (uI (fun _ => 0) 1 (nI f)) 2 (-1)) 3 0) (by omega) (by omega) rfl rfl (Or.inl ⟨rfl, fun s' hs' => absurd hs' (by omega)⟩)
def hq_shut (o : Nat → Int32) (k s : Nat) : Nat → Int32 := upd (upd o k 0) s 0
def hq_close (t : XT) (k s : Nat) : XT := sA (sA t 4 (hq_two (t.2.2.1 4) k s)) 9 (hq_shut (t.2.2.1 9) k s)
theorem hq_closes {t : XT} {k s K : Nat} {Q : XT → Prop} (hk : k < 60) (hs : s < 60) (hK : 1 ≤ K) (h : Q (hq_close t k s)) : wqX12_closes K t (nI k) (nI s) Q := by
  obtain ⟨K, rfl⟩ : ∃ K', K = K' + 1 := ⟨K - 1, by omega⟩
  have ck : (nI k).toNatClampNeg = k := nI_clamp (by omega)
  have cs : (nI s).toNatClampNeg = s := nI_clamp (by omega)
  show wbX12_closes_0 (wpX12_closes K) K t (uI (uI (fun _ => 0) 1 (nI k)) 2 (nI s)) (fun _ => 0) Q
  refine ⟨vp_in_nI hk (by decide), fun t1 e1 => ⟨vp_in_nI hs (by decide), fun t2 e2 => ⟨vp_in_nI hk (by decide), fun t3 e3 => ⟨vp_in_nI hs (by decide), fun t4 e4 => ?_⟩⟩⟩⟩
  have e : t4 = hq_close t k s := by
    rw [e4, e3, e2, e1]
    show sA (sA (sA (sA t 4 (upd (t.2.2.1 4) (nI k).toNatClampNeg (nI s))) 4 (upd (upd (t.2.2.1 4) (nI k).toNatClampNeg (nI s)) (nI s).toNatClampNeg (nI k))) 9 (upd (t.2.2.1 9) (nI k).toNatClampNeg (vp_nar .boolean 0))) 9 (upd (upd (t.2.2.1 9) (nI k).toNatClampNeg (vp_nar .boolean 0)) (nI s).toNatClampNeg (vp_nar .boolean 0)) = _
    rw [hm_sAA, hm_sAA, ck, cs]; rfl
  rw [e]; exact h
def hq_open (m : Nat) (o : Nat → Int32) : Nat := hm_sum (fun k => if o k = 0 then 0 else 1) m
theorem hq_open_lt {m k : Nat} {o : Nat → Int32} (hk : k < m) (h : o k ≠ 0) : hq_open m (upd o k 0) < hq_open m o := by
  unfold hq_open
  refine hm_sum_lt m k hk ?_ (fun j _ => ?_)
  · show (if upd o k 0 k = 0 then 0 else 1) < (if o k = 0 then 0 else 1)
    rw [if_neg h, if_pos (show upd o k 0 k = 0 from if_pos rfl)]
    exact Nat.zero_lt_one
  · show (if upd o k 0 j = 0 then 0 else 1) ≤ (if o j = 0 then 0 else 1)
    by_cases x : j = k
    · rw [if_pos (show upd o k 0 j = 0 from if_pos x)]
      exact Nat.zero_le _
    · rw [show upd o k 0 j = o j from if_neg x]
      exact Nat.le_refl _
theorem hq_open_le {o : Nat → Int32} : ∀ m : Nat, hq_open m o ≤ m := by
  intro m
  induction m with
  | zero => exact Nat.le_refl _
  | succ m ih =>
    show hm_sum (fun k => if o k = 0 then 0 else 1) m + (if o m = 0 then 0 else 1) ≤ m + 1
    have ih : hm_sum (fun k => if o k = 0 then 0 else 1) m ≤ m := ih
    by_cases x : o m = 0
    · rw [if_pos x]; omega
    · rw [if_neg x]; omega
def hq_a2 (t : XT) (m b : Nat) : Prop := hq_open m (t.2.2.1 9) ≤ b ∧ b ≤ 60 ∧ (∀ k, k < m → t.2.2.1 9 k ≠ 0 → hm_par t k = -1 ∧ hm_gone t k = 0) ∧ (∀ g s, g < m → s < m → hm_low t g → t.2.2.1 9 s ≠ 0 → ¬ hm_face t g s) ∧ ∃ δ : Nat → Nat, (∀ f, f < m → hm_low t f → b ≤ δ f ∧ δ f < 60) ∧ ∀ f g, f < m → g < m → hm_low t f → hm_low t g → g ≠ f → hm_on t f g → δ g < δ f
theorem hq_a2_drop {t : XT} {m b k : Nat} (h : hq_a2 t m b) (hk : k < m) (ok : t.2.2.1 9 k ≠ 0) : hq_a2 (sA t 9 (upd (t.2.2.1 9) k 0)) m b := by
  obtain ⟨h1, h2, h3, h4, h5⟩ := h
  have sub : ∀ j, upd (t.2.2.1 9) k 0 j ≠ 0 → t.2.2.1 9 j ≠ 0 := by
    intro j z
    by_cases x : j = k
    · exact absurd (if_pos x) z
    · intro y
      exact z ((if_neg x).trans y)
  exact ⟨Nat.le_trans (Nat.le_of_lt (hq_open_lt hk ok)) h1, h2, fun j hj z => h3 j hj (sub j z), fun g s hg hs lo z => h4 g s hg hs lo (sub s z), h5⟩
theorem hq_a2_close {t : XT} {m n b k s : Nat} (hI : hq_inv t m n) (h : hq_a2 t m b) (hk : k < m) (hs : s < m) (ok : t.2.2.1 9 k ≠ 0) (os : t.2.2.1 9 s ≠ 0) (hF : hm_face t k s) (un : ∀ s', s' < m → t.2.2.1 9 s' ≠ 0 → hm_face t k s' → s' = s) :
    hq_inv (hq_close t k s) m n ∧ hq_a2 (hq_close t k s) m (b - 1) ∧ hq_open m (hq_shut (t.2.2.1 9) k s) < hq_open m (t.2.2.1 9) := by
  obtain ⟨hm, hm60, ho, hM, hA, hn, h4, hp, hT⟩ := hI
  obtain ⟨a1, a2, a3, a4, δ, a5, a6⟩ := h
  have ks := ho k s hk hs hF
  have par : ∀ j, hm_par (hq_close t k s) j = if j = s then nI k else if j = k then nI s else hm_par t j := fun j => rfl
  have opn : ∀ j, hq_shut (t.2.2.1 9) k s j ≠ 0 → t.2.2.1 9 j ≠ 0 ∧ j ≠ s ∧ j ≠ k := by
    intro j z
    have e : hq_shut (t.2.2.1 9) k s j = if j = s then 0 else if j = k then 0 else t.2.2.1 9 j := rfl
    rw [e] at z
    by_cases x : j = s
    · exact absurd (if_pos x) z
    · rw [if_neg x] at z
      by_cases y : j = k
      · exact absurd (if_pos y) z
      · rw [if_neg y] at z
        exact ⟨z, x, y⟩
  have low : ∀ j, j < m → hm_low (hq_close t k s) j → j = k ∨ (j ≠ k ∧ j ≠ s ∧ hm_low t j) := by
    intro j hj lo
    unfold hm_low at lo
    rw [par] at lo
    by_cases x : j = s
    · rw [if_pos x] at lo
      exact absurd lo.2 (by rw [x]; exact nI_nlt (by omega) (by omega))
    · rw [if_neg x] at lo
      by_cases y : j = k
      · exact Or.inl y
      · rw [if_neg y] at lo
        exact Or.inr ⟨y, x, lo⟩
  have c1 := hq_open_lt hk ok
  have c2 : hq_open m (hq_shut (t.2.2.1 9) k s) < hq_open m (upd (t.2.2.1 9) k 0) := hq_open_lt hs (by rw [show upd (t.2.2.1 9) k 0 s = t.2.2.1 9 s from if_neg (by omega)]; exact os)
  have A2 : hq_a2 (hq_close t k s) m (b - 1) := by
    refine ⟨?_, by omega, fun j hj z => ?_, fun g s' hg hs' lo z fc => ?_, fun j => if j = k then b - 1 else δ j, fun f hf lo => ?_, fun f g hf hg lf lg ne on => ?_⟩
    · show hq_open m (hq_shut (t.2.2.1 9) k s) ≤ b - 1
      omega
    · obtain ⟨z1, z2, z3⟩ := opn j z
      refine ⟨?_, (a3 j hj z1).2⟩
      rw [par, if_neg z2, if_neg z3]
      exact (a3 j hj z1).1
    · obtain ⟨z1, z2, z3⟩ := opn s' z
      rcases low g hg lo with x | ⟨x, y, w⟩
      · subst x
        exact z2 (un s' hs' z1 fc)
      · exact a4 g s' hg hs' w z1 fc
    · show b - 1 ≤ (if f = k then b - 1 else δ f) ∧ (if f = k then b - 1 else δ f) < 60
      rcases low f hf lo with x | ⟨x, y, w⟩
      · rw [if_pos x]; omega
      · rw [if_neg x]
        have := a5 f hf w
        omega
    · show (if g = k then b - 1 else δ g) < (if f = k then b - 1 else δ f)
      obtain ⟨p, hp60, ep, fc⟩ := on
      rw [par] at ep
      rcases low f hf lf with x | ⟨x, y, w⟩
      · rcases low g hg lg with x2 | ⟨x2, y2, w2⟩
        · exact absurd (x2.trans x.symm) ne
        · rw [if_neg (show ¬ f = s by omega), if_pos x] at ep
          have e := (nI_eq (by omega) (by omega)).mp ep
          subst e
          exact absurd fc (a4 g s hg hs w2 os)
      · rw [if_neg x]
        rw [if_neg y, if_neg x] at ep
        have bf := a5 f hf w
        rcases low g hg lg with x2 | ⟨x2, y2, w2⟩
        · rw [if_pos x2]; omega
        · rw [if_neg x2]
          exact a6 f g hf hg w w2 ne ⟨p, hp60, ep, fc⟩
  refine ⟨⟨hm, hm60, ho, hq_match_two hm60 hk hs ks hF hM (a3 k hk ok).1 (a3 s hs os).1, ?_, hn, h4, fun j hj => hq_good_ext (t := t) (fun _ => rfl) (fun _ _ => rfl) (hp j hj), hq_th_two hT (a3 k hk ok).2 (a3 s hs os).2, hT.2⟩, A2, by omega⟩
  obtain ⟨_, _, _, _, δ', d1, d2⟩ := A2
  exact ⟨δ', fun f hf lo => (d1 f hf lo).2, d2⟩
