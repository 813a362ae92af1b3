/-! ===== reference, pure: opensAll, auto2, auto ===== -/
theorem hq_opens_go {t : XT} {m : Nat} {lj : Nat → Int64} {Q : XT → Prop} (hm : t.1 3 = nI m) (hm60 : m ≤ 60) (hQ : ∀ G, (∀ k, k < m → G k ≠ 0 → hm_gone t k = 0) → Q (sA t 9 G)) :
    ∀ (d c K : Nat) (li : Nat → Int32) (G : Nat → Int32), c + d = m → 2 * d + 1 ≤ K → li 1 = nI c → (∀ k, k < c → G k ≠ 0 → hm_gone t k = 0) → wpX12_opensAll K 1 (sA t 9 G) li lj Q := by
  intro d
  induction d with
  | zero =>
    intro c K li G hd hK e1 hG
    obtain ⟨K, rfl⟩ : ∃ K', K = K' + 1 := ⟨K - 1, by omega⟩
    show wbX12_opensAll_1 (wpX12_opensAll K) K (sA t 9 G) li lj Q
    refine ⟨fun _ => hQ G (fun k hk => hG k (by omega)), fun x => absurd ?_ x⟩
    show t.1 3 ≤ li 1
    rw [hm, e1]; exact nI_le (by omega) (by omega)
  | succ d ih =>
    intro c K li G hd hK e1 hG
    obtain ⟨K, rfl⟩ : ∃ K', K = K' + 2 := ⟨K - 2, by omega⟩
    have cc : (nI c).toNatClampNeg = c := nI_clamp (by omega)
    have nx : ∀ b : Int32, (b = 0 ∨ hm_gone t c = 0) → wpX12_opensAll (K + 1) 2 (sA t 9 G) (uI (uI li 102 b) 101 (nI c)) lj Q := by
      intro b hb
      show wbX12_opensAll_2 (wpX12_opensAll K) K (sA t 9 G) (uI (uI li 102 b) 101 (nI c)) lj Q
      refine ⟨vp_in_nI (n := c) (by omega) (by decide), fun t5 e5 v6 e6 => ?_⟩
      have e6 : v6 = nI (c + 1) := by
        rw [e6]
        exact (congrArg (· + Int32.ofInt 1) e1).trans (hs_inc c)
      rw [hm_sAA] at e5
      have e5 : t5 = sA t 9 (upd G (nI c).toNatClampNeg (vp_nar .boolean b)) := e5
      rw [cc] at e5
      rw [e5]
      refine ih (c + 1) K _ _ (by omega) (by omega) e6 (fun k hk q => ?_)
      by_cases x : k = c
      · rcases hb with z | z
        · exact absurd ((if_pos x).trans (by rw [z]; rfl)) q
        · rw [x]; exact z
      · exact hG k (by omega) (fun y => q ((if_neg x).trans y))
    show wbX12_opensAll_1 (wpX12_opensAll (K + 1)) (K + 1) (sA t 9 G) li lj Q
    unfold wbX12_opensAll_1
    rw [e1]
    refine ⟨fun x => absurd (show t.1 3 ≤ nI c from x) (by rw [hm]; exact nI_ge (by omega) (by omega)), fun _ => ⟨vp_in_nI (by omega) (by decide), fun v3 e3 => ⟨fun _ => nx 0 (Or.inl rfl), fun y => nx 1 (Or.inr ?_)⟩⟩⟩
    rw [cc] at e3
    exact e3.symm.trans y
theorem hq_opensAll {t : XT} {m K : Nat} {Q : XT → Prop} (hm : t.1 3 = nI m) (hm60 : m ≤ 60) (hK : 200 ≤ K) (hQ : ∀ G, (∀ k, k < m → G k ≠ 0 → hm_gone t k = 0) → Q (sA (sA t 4 (hq_clr m (t.2.2.1 4))) 9 G)) : wqX12_opensAll K t Q := by
  obtain ⟨K, rfl⟩ : ∃ K', K = K' + 1 := ⟨K - 1, by omega⟩
  show wbX12_opensAll_0 (wpX12_opensAll K) K t (fun _ => 0) (fun _ => 0) Q
  refine hq_clearsPairs hm hm60 (by omega) ?_
  have g := hq_opens_go (t := sA t 4 (hq_clr m (t.2.2.1 4))) (lj := fun _ => 0) hm hm60 hQ m 0 K (uI (fun _ => 0) 1 0) ((sA t 4 (hq_clr m (t.2.2.1 4))).2.2.1 9) (by omega) (by omega) rfl (fun k hk => absurd hk (by omega))
  rw [hm_sA0] at g
  exact g
def hq_i2 (t : XT) (m n : Nat) (z : Int32 × Int32 × (Nat → Int32) × (Nat → Int32)) (a : Nat) : Prop := hq_inv t m n ∧ (∃ b, hq_a2 t m b) ∧ hq_key t = z ∧ hq_open m (t.2.2.1 9) < a
theorem hq_auto2_back {m n a L : Nat} {z : Int32 × Int32 × (Nat → Int32) × (Nat → Int32)} {lj : Nat → Int64} {Q : XT → Prop} (hm60 : m ≤ 60)
    (ih : ∀ (K : Nat) (t : XT) (li : Nat → Int32), L ≤ K → hq_i2 t m n z a → wpX12_auto2 K 1 t li lj Q) {t : XT} (hI : hq_i2 t m n z a) :
    ∀ (K : Nat) (li : Nat → Int32), L + 4 ≤ K → ¬ li 1 = 0 → wpX12_auto2 K 3 t li lj Q := by
  intro K li hK e
  obtain ⟨K, rfl⟩ : ∃ K', K = K' + 4 := ⟨K - 4, by omega⟩
  show wbX12_auto2_3 (wpX12_auto2 (K + 3)) (K + 3) t li lj Q
  intro v ev
  have four : ∀ li' : Nat → Int32, ¬ li' 1 = 0 → wpX12_auto2 (K + 2) 4 t li' lj Q := by
    intro li' e'
    show wbX12_auto2_4 (wpX12_auto2 (K + 1)) (K + 1) t li' lj Q
    refine ⟨fun _ => ?_, fun c => absurd c e'⟩
    show wbX12_auto2_5 (wpX12_auto2 K) K t li' lj Q
    exact ih K t li' (by omega) hI
  show wbX12_auto2_2 (wpX12_auto2 (K + 2)) (K + 2) t (uI li 3 v) lj Q
  exact ⟨fun _ => four _ e, fun _ => ⟨fun _ => four _ e, fun c => absurd c e⟩⟩
theorem hq_auto2_in {m n a L : Nat} {z : Int32 × Int32 × (Nat → Int32) × (Nat → Int32)} {lj : Nat → Int64} {Q : XT → Prop} (hL : 300 ≤ L) (hQ : ∀ t', hq_key t' = z → hq_inv t' m n → Q t')
    (ih : ∀ (K : Nat) (t : XT) (li : Nat → Int32), L ≤ K → hq_i2 t m n z a → wpX12_auto2 K 1 t li lj Q) {t : XT} (hI : hq_i2 t m n z (a + 1)) :
    ∀ (d c K : Nat) (li : Nat → Int32), c + d = m → 2 * d + L + 10 ≤ K → li 1 = 0 → li 3 = nI c → (li 2 = -1 ∨ ∃ k, k < m ∧ li 2 = nI k ∧ t.2.2.1 9 k ≠ 0) → wpX12_auto2 K 2 t li lj Q := by
  obtain ⟨hI1, ⟨b, hb⟩, ez, ho⟩ := hI
  have hm := hI1.1
  have hm60 := hI1.2.1
  intro d
  induction d with
  | zero =>
    intro c K li hd hK e1 e3 hl
    obtain ⟨K, rfl⟩ : ∃ K', K = K' + 3 := ⟨K - 3, by omega⟩
    show wbX12_auto2_2 (wpX12_auto2 (K + 2)) (K + 2) t li lj Q
    refine ⟨fun _ => ?_, fun x => absurd (by rw [hm, e3]; exact nI_le (by omega) (by omega)) x⟩
    show wbX12_auto2_4 (wpX12_auto2 (K + 1)) (K + 1) t li lj Q
    refine ⟨fun x => absurd e1 x, fun _ => ⟨fun _ => ?_, fun x => ?_⟩⟩
    · show wbX12_auto2_5 (wpX12_auto2 K) K t li lj Q
      obtain ⟨K, rfl⟩ : ∃ K', K = K' + 1 := ⟨K - 1, by omega⟩
      show wbX12_auto2_1 (wpX12_auto2 K) K t li lj Q
      exact ⟨fun _ => hQ t ez hI1, fun x => absurd e1 x⟩
    · rcases hl with y | ⟨k, hk, y, ok⟩
      · exact absurd y x
      · rw [y]
        refine ⟨vp_in_nI (by omega) (by decide), fun t13 e13 => ?_⟩
        have ck : (nI k).toNatClampNeg = k := nI_clamp (by omega)
        have e13 : t13 = sA t 9 (upd (t.2.2.1 9) k 0) := by
          rw [e13, ck]; rfl
        rw [e13]
        show wbX12_auto2_5 (wpX12_auto2 K) K (sA t 9 (upd (t.2.2.1 9) k 0)) (uI li 1 1) lj Q
        refine ih K _ _ (by omega) ⟨?_, ⟨b, hq_a2_drop hb hk ok⟩, ez, ?_⟩
        · obtain ⟨_, _, ho', hM, hA, hn, h4, hp, hT⟩ := hI1
          exact ⟨hm, hm60, ho', hM, hA, hn, h4, fun j hj => hq_good_ext (t := t) (fun _ => rfl) (fun _ _ => rfl) (hp j hj), hT⟩
        · have u := hq_open_lt hk ok
          show hq_open m (upd (t.2.2.1 9) k 0) < a
          omega
  | succ d ihd =>
    intro c K li hd hK e1 e3 hl
    obtain ⟨K, rfl⟩ : ∃ K', K = K' + 2 := ⟨K - 2, by omega⟩
    have cc : (nI c).toNatClampNeg = c := nI_clamp (by omega)
    have nx : ∀ li' : Nat → Int32, li' 1 = 0 → li' 3 = nI c → (li' 2 = -1 ∨ ∃ k, k < m ∧ li' 2 = nI k ∧ t.2.2.1 9 k ≠ 0) → wpX12_auto2 (K + 1) 3 t li' lj Q := by
      intro li' a1 a3 a2
      show wbX12_auto2_3 (wpX12_auto2 K) K t li' lj Q
      intro v e
      have e : v = nI (c + 1) := by rw [e, a3]; exact hs_inc c
      exact ihd (c + 1) K (uI li' 3 v) (by omega) (by omega) a1 e a2
    show wbX12_auto2_2 (wpX12_auto2 (K + 1)) (K + 1) t li lj Q
    unfold wbX12_auto2_2
    rw [e1, e3]
    refine ⟨fun x => absurd (show t.1 3 ≤ nI c from x) (by rw [hm]; exact nI_ge (by omega) (by omega)), fun _ => ⟨fun x => absurd rfl x, fun _ => ⟨vp_in_nI (by omega) (by decide), fun v5 e5 => ?_⟩⟩⟩
    rw [cc] at e5
    refine ⟨fun _ => nx li e1 e3 hl, fun ok => ?_⟩
    have ok : t.2.2.1 9 c ≠ 0 := fun q => ok (e5.trans q)
    refine hq_onlyOver hm hm60 (by omega) (by omega) (fun s hs os fc un => ?_) ?_
    · refine ⟨fun x => absurd x (hs_nI_neg (by omega)), fun _ => ?_⟩
      refine hq_closes (by omega) (by omega) (by omega) ?_
      obtain ⟨g1, g2, g3⟩ := hq_a2_close hI1 hb (show c < m by omega) hs ok os fc un
      refine hq_auto2_back hm60 ih (t := hq_close t c s) ⟨g1, ⟨_, g2⟩, ez, ?_⟩ (K + 1) _ (by omega) (by show ¬ (1 : Int32) = 0; decide)
      show hq_open m (hq_shut (t.2.2.1 9) c s) < a
      omega
    · refine ⟨fun _ => nx (uI li 2 (nI c)) e1 e3 (Or.inr ⟨c, by omega, rfl, ok⟩), fun x => absurd rfl x⟩
theorem hq_auto2_out {m n : Nat} {z : Int32 × Int32 × (Nat → Int32) × (Nat → Int32)} {lj : Nat → Int64} {Q : XT → Prop} (hQ : ∀ t', hq_key t' = z → hq_inv t' m n → Q t') :
    ∀ (a K : Nat) (t : XT) (li : Nat → Int32), 1000 * a + 300 ≤ K → hq_i2 t m n z a → wpX12_auto2 K 1 t li lj Q := by
  intro a
  induction a with
  | zero =>
    intro K t li _ hI
    exact absurd hI.2.2.2 (by omega)
  | succ a ih =>
    intro K t li hK hI
    obtain ⟨K, rfl⟩ : ∃ K', K = K' + 1 := ⟨K - 1, by omega⟩
    have hm60 := hI.1.2.1
    show wbX12_auto2_1 (wpX12_auto2 K) K t li lj Q
    refine ⟨fun _ => hQ t hI.2.2.1 hI.1, fun _ => ?_⟩
    obtain ⟨L, hL⟩ : ∃ L, L = 1000 * a + 300 := ⟨_, rfl⟩
    exact hq_auto2_in (L := L) (by omega) hQ (fun K' t' li' h1 h2 => ih K' t' li' (by omega) h2) hI m 0 K _ (by omega) (by omega) rfl rfl (Or.inl rfl)
theorem hq_auto2 {t : XT} {m n K : Nat} {Q : XT → Prop} (hI : hq_inv t m n) (hK : 70000 ≤ K) (hQ : ∀ t', hq_key t' = hq_key t → hq_inv t' m n → Q t') : wqX12_auto2 K t Q := by
  obtain ⟨K, rfl⟩ : ∃ K', K = K' + 1 := ⟨K - 1, by omega⟩
  have hm := hI.1
  have hm60 := hI.2.1
  show wbX12_auto2_0 (wpX12_auto2 K) K t (fun _ => 0) (fun _ => 0) Q
  refine hq_opensAll hm hm60 (by omega) (fun G hG => ?_)
  have hC := hq_clear_inv hI
  obtain ⟨A, hA61⟩ : ∃ A, A = m + 1 := ⟨_, rfl⟩
  refine hq_auto2_out (n := n) (z := hq_key t) hQ A K _ _ (by omega) ⟨?_, ⟨60, ?_⟩, rfl, ?_⟩
  · obtain ⟨_, _, ho', hM, hA, hn, h4, hp, hT⟩ := hC
    exact ⟨hm, hm60, ho', hM, hA, hn, h4, fun j hj => hq_good_ext (t := sA t 4 (hq_clr m (t.2.2.1 4))) (fun _ => rfl) (fun _ _ => rfl) (hp j hj), hT⟩
  · have np : ∀ k, k < m → hm_par (sA (sA t 4 (hq_clr m (t.2.2.1 4))) 9 G) k = -1 := fun k hk => if_pos hk
    have nl : ∀ k, k < m → ¬ hm_low (sA (sA t 4 (hq_clr m (t.2.2.1 4))) 9 G) k := fun k hk lo => lo.1 (np k hk)
    exact ⟨Nat.le_trans (hq_open_le m) hm60, Nat.le_refl _, fun k hk o => ⟨np k hk, hG k hk o⟩, fun g s hg hs lo => absurd lo (nl g hg), fun _ => 0, fun f hf lo => absurd lo (nl f hf), fun f g hf hg lo => absurd lo (nl f hf)⟩
  · have u := hq_open_le (o := G) m
    show hq_open m G < A
    omega
theorem hq_auto {t : XT} {m n K : Nat} {a : Int32} {Q : Int32 → XT → Prop} (hI : hq_inv t m n) (hK : 70002 ≤ K) (hQ : ∀ r t' n', hq_key t' = hq_key t → hq_inv t' m n' → Q r t') : wqX12_auto K t a Q := by
  have hI' := hI
  obtain ⟨hm, hm60, ho, hM, hA, hn, h4, hp, hT⟩ := hI'
  obtain ⟨K, rfl⟩ : ∃ K', K = K' + 1 := ⟨K - 1, by omega⟩
  have out : wpX12_auto K 1 t (uI (fun _ => 0) 1 a) (fun _ => 0) Q := by
    obtain ⟨K, rfl⟩ : ∃ K', K = K' + 1 := ⟨K - 1, by omega⟩
    exact hQ (-1) t n rfl hI
  have two : ∀ t' n', hq_key t' = hq_key t → hq_inv t' m n' → wpX12_auto K 2 t' (uI (fun _ => 0) 1 a) (fun _ => 0) Q := by
    intro t' n' e h
    obtain ⟨K, rfl⟩ : ∃ K', K = K' + 1 := ⟨K - 1, by omega⟩
    show wbX12_auto_2 (wpX12_auto K) K t' (uI (fun _ => 0) 1 a) (fun _ => 0) Q
    exact hm_criticalMany h.1 hm60 (by omega) (hQ _ t' n' e h)
  show wbX12_auto_0 (wpX12_auto K) K t (uI (fun _ => 0) 1 a) (fun _ => 0) Q
  refine ⟨fun _ => out, fun _ => ?_⟩
  refine hm_in (by omega) ?_
  refine ⟨fun _ => ?_, fun _ => out⟩
  refine hq_remembers h4 hn (by omega) (fun P n' hP => ?_)
  have hI1 := hq_push_inv hI hP
  refine hq_clearsPairs hI1.1 hm60 (by omega) ?_
  have hI2 := hq_clear_inv hI1
  refine ⟨fun _ => ⟨fun _ => ?_, fun _ => ?_⟩, fun _ => ?_⟩
  · exact hq_auto2 hI2 (by omega) (fun t' e h => two t' n' e h)
  · exact hq_auto1 hI2 (by omega) (fun t' e h => two t' n' e h)
  · exact hq_auto0 hI2 (by omega) (fun t' e h => two t' n' e h)
