/-! ===== reference, pure: drawnOnce, drawn ===== -/
def hq_key3 (t : XT) : Int32 × (Nat → Int32) × (Nat → Int32) × (Nat → Int32) × (Nat → Int32) := (t.1 0, t.2.2.1 2, t.2.2.1 3, t.2.2.1 5, t.2.2.1 13)
def hq_i3 (t : XT) (m n : Nat) (z : Int32 × (Nat → Int32) × (Nat → Int32) × (Nat → Int32) × (Nat → Int32)) (a : Nat) : Prop := hq_inv t m n ∧ (∃ b, hq_a2 t m b) ∧ hq_key3 t = z ∧ 0 ≤ t.1 8 ∧ hq_open m (t.2.2.1 9) < a
theorem hq_le0 {c : Nat} (hc : c ≤ 60) : nI c ≤ 0 ↔ c = 0 := by
  refine ⟨fun h => ?_, fun h => by rw [h]; exact Int32.le_refl _⟩
  have h := Int32.le_iff_toInt_le.mp h
  rw [nI_toInt (by omega)] at h
  have h : (c : Int) ≤ 0 := h
  omega
theorem hq_once_go {m n : Nat} {z : Int32 × (Nat → Int32) × (Nat → Int32) × (Nat → Int32) × (Nat → Int32)} {lj : Nat → Int64} {Q : Int32 → XT → Prop} (hm60 : m ≤ 60) (hQ : ∀ r t', hq_key3 t' = z → 0 ≤ t'.1 8 → hq_inv t' m n → Q r t') :
    ∀ (a K : Nat) (t : XT) (li : Nat → Int32), 2 * a + 1000 ≤ K → hq_i3 t m n z a → (li 2 = -1 ∨ ∃ k, k < m ∧ t.2.2.1 9 k ≠ 0 ∧ li 2 = hm_dim t k) → wpX12_drawnOnce K 1 t li lj Q := by
  intro a
  induction a with
  | zero =>
    intro K t li hK hI _
    exact absurd hI.2.2.2.2 (by omega)
  | succ a ih =>
    intro K t li hK hI hd
    obtain ⟨K, rfl⟩ : ∃ K', K = K' + 2 := ⟨K - 2, by omega⟩
    obtain ⟨hI1, ⟨b, hb⟩, ez, hx, ho⟩ := hI
    have hm := hI1.1
    have nx : ∀ (t' : XT) (li' : Nat → Int32), hq_i3 t' m n z a → wpX12_drawnOnce (K + 1) 2 t' li' lj Q := by
      intro t' li' h
      show wbX12_drawnOnce_2 (wpX12_drawnOnce K) K t' li' lj Q
      refine hq_openDim h.1.1 hm60 (by omega) (fun k hk o => ?_) ?_
      · exact ih K t' _ (by omega) h (Or.inr ⟨k, hk, o, rfl⟩)
      · exact ih K t' _ (by omega) h (Or.inl rfl)
    show wbX12_drawnOnce_1 (wpX12_drawnOnce (K + 1)) (K + 1) t li lj Q
    refine ⟨fun _ => hQ _ t ez hx hI1, fun ne => ?_⟩
    refine hq_choices hm hm60 (by omega) (fun c G hc hG _ => ⟨fun y => ?_, fun y => ?_⟩)
    · refine hq_choices (t := sA t 12 G) (d := li 2) hm hm60 (by omega) (fun c' G' hc' hG' hN' => ?_)
      have pos : 0 < c' := by
        rcases hd with q | ⟨k, k1, k2, k3⟩
        · exact absurd q ne
        · exact hN' k k1 k2 (Or.inl ⟨rfl, k3.symm⟩)
      refine hq_drawnOf (t := sA (sA t 12 G) 12 G') hx pos (by omega) (by omega) (fun v j hv hj => ?_)
      obtain ⟨k, k1, k2, k3, k4⟩ := hG' j hj
      refine ⟨vp_in_nI (by omega) (by decide), fun v8 e8 => ?_⟩
      rw [nI_clamp (show j < 2 ^ 31 by omega)] at e8
      have e8 : v8 = nI k := e8.trans k2
      subst e8
      refine ⟨vp_in_nI (by omega) (by decide), fun t9 e9 v10 _ => ?_⟩
      rw [nI_clamp (show k < 2 ^ 31 by omega)] at e9
      have k3 : t.2.2.1 9 k ≠ 0 := k3
      have o1 := hq_open_lt k1 k3
      have e9 : t9 = sA (sI (sA (sA t 12 G) 12 G') 8 v) 9 (upd (t.2.2.1 9) k 0) := e9
      rw [e9]
      refine nx _ _ ⟨hq_frame (t := t) rfl rfl rfl rfl rfl rfl hI1, ⟨b, hq_a2_drop hb k1 k3⟩, ez, hv, ?_⟩
      show hq_open m (upd (t.2.2.1 9) k 0) < a
      omega
    · have pos : 0 < c := by
        refine Nat.pos_of_ne_zero (fun q => y ?_)
        exact (hq_le0 (by omega)).mpr q
      refine hq_drawnOf (t := sA t 12 G) hx pos (by omega) (by omega) (fun v j hv hj => ?_)
      obtain ⟨k, k1, k2, k3, k4⟩ := hG j hj
      refine ⟨vp_in_nI (by omega) (by decide), fun v12 e12 => ?_⟩
      rw [nI_clamp (show j < 2 ^ 31 by omega)] at e12
      have e12 : v12 = nI k := e12.trans k2
      subst e12
      have one : ∃ s, hq_one t m k s := by
        rcases k4 with ⟨q, _⟩ | ⟨_, q⟩
        · exact absurd q (by decide)
        · exact q
      have hI2 : hq_inv (sI (sA t 12 G) 8 v) m n := hq_frame (t := t) rfl rfl rfl rfl rfl rfl hI1
      refine hq_only2 (t := sI (sA t 12 G) 8 v) (m := m) hm hm60 k1 (by omega) (fun s hs => ?_) (fun no => ?_)
      · have hs' := hs
        obtain ⟨s1, s2, s3, s4⟩ := hs'
        refine hq_closes (t := sI (sA t 12 G) 8 v) (by omega) (by omega) (by omega) ?_
        obtain ⟨c1, c2, c3⟩ := hq_a2_close (t := sI (sA t 12 G) 8 v) (b := b) hI2 hb k1 s1 k3 s2 s3 s4
        have c3 : hq_open m (hq_shut (t.2.2.1 9) k s) < hq_open m (t.2.2.1 9) := c3
        refine nx _ _ ⟨c1, ⟨b - 1, c2⟩, ez, hv, ?_⟩
        show hq_open m (hq_shut (t.2.2.1 9) k s) < a
        omega
      · obtain ⟨s, hs⟩ := one
        exact absurd hs (no s)
theorem hq_drawnOnce {t : XT} {m n K : Nat} {Q : Int32 → XT → Prop} (hI : hq_inv t m n) (hx : 0 ≤ t.1 8) (hK : 2000 ≤ K) (hQ : ∀ r t', hq_key3 t' = hq_key3 t → 0 ≤ t'.1 8 → hq_inv t' m n → Q r t') : wqX12_drawnOnce K t Q := by
  obtain ⟨K, rfl⟩ : ∃ K', K = K' + 1 := ⟨K - 1, by omega⟩
  have hm := hI.1
  have hm60 := hI.2.1
  show wbX12_drawnOnce_0 (wpX12_drawnOnce K) K t (fun _ => 0) (fun _ => 0) Q
  refine hq_opensAll hm hm60 (by omega) (fun G hG => ?_)
  have hC := hq_clear_inv hI
  obtain ⟨A, hA61⟩ : ∃ A, A = m + 1 := ⟨_, rfl⟩
  have i3 : hq_i3 (sA (sA t 4 (hq_clr m (t.2.2.1 4))) 9 G) m n (hq_key3 t) A := by
    refine ⟨?_, ⟨60, ?_⟩, rfl, hx, ?_⟩
    · obtain ⟨_, _, ho', hM, hA, hn, h4, hp, hT⟩ := hC
      exact ⟨hm, hm60, ho', hM, hA, hn, h4, fun j hj => hq_good_ext (t := sA t 4 (hq_clr m (t.2.2.1 4))) (fun _ => rfl) (fun _ _ => rfl) (hp j hj), hT⟩
    · have np : ∀ k, k < m → hm_par (sA (sA t 4 (hq_clr m (t.2.2.1 4))) 9 G) k = -1 := fun k hk => if_pos hk
      have nl : ∀ k, k < m → ¬ hm_low (sA (sA t 4 (hq_clr m (t.2.2.1 4))) 9 G) k := fun k hk lo => lo.1 (np k hk)
      exact ⟨Nat.le_trans (hq_open_le m) hm60, Nat.le_refl _, fun k hk o => ⟨np k hk, hG k hk o⟩, fun g s hg hs lo => absurd lo (nl g hg), fun _ => 0, fun f hf lo => absurd lo (nl f hf), fun f g hf hg lo => absurd lo (nl f hf)⟩
    · have u := hq_open_le (o := G) m
      show hq_open m G < A
      omega
  refine hq_openDim (t := sA (sA t 4 (hq_clr m (t.2.2.1 4))) 9 G) hm hm60 (by omega) (fun k hk o => ?_) ?_
  · exact hq_once_go hm60 hQ A K _ _ (by omega) i3 (Or.inr ⟨k, hk, o, rfl⟩)
  · exact hq_once_go hm60 hQ A K _ _ (by omega) i3 (Or.inl rfl)
/-- the PAIRS come back: of the first m places -/
theorem hq_drawn_back {m : Nat} {lj : Nat → Int64} {Q : Int32 → XT → Prop} (hm60 : m ≤ 60) {t : XT} (hm : t.1 3 = nI m)
    (hQ : ∀ r P, (∀ k, k < m → P k = t.2.2.1 13 k) → Q r (sA t 4 P)) :
    ∀ (d c K : Nat) (li P : Nat → Int32), c + d = m → d + 2 ≤ K → li 7 = nI c → (∀ k, k < c → P k = t.2.2.1 13 k) → wpX12_drawn K 5 (sA t 4 P) li lj Q := by
  intro d
  induction d with
  | zero =>
    intro c K li P hd hK e7 hP
    obtain ⟨K, rfl⟩ : ∃ K', K = K' + 1 := ⟨K - 1, by omega⟩
    obtain rfl : c = m := by omega
    show wbX12_drawn_5 (wpX12_drawn K) K (sA t 4 P) li lj Q
    exact ⟨fun _ => ⟨fun _ => ⟨fun _ => hQ _ P hP, fun _ => hQ _ P hP⟩, fun _ => hQ _ P hP⟩, fun x => absurd (show t.1 3 ≤ li 7 by rw [hm, e7]; exact nI_le (by omega) (by omega)) x⟩
  | succ d ih =>
    intro c K li P hd hK e7 hP
    obtain ⟨K, rfl⟩ : ∃ K', K = K' + 1 := ⟨K - 1, by omega⟩
    have cc : (nI c).toNatClampNeg = c := nI_clamp (by omega)
    show wbX12_drawn_5 (wpX12_drawn K) K (sA t 4 P) li lj Q
    unfold wbX12_drawn_5
    rw [e7]
    refine ⟨fun x => absurd (show t.1 3 ≤ nI c from x) (by rw [hm]; exact nI_ge (by omega) (by omega)), fun _ => ⟨vp_in_nI (by omega) (by decide), fun v22 e22 => ⟨vp_in_nI (by omega) (by decide), fun t23 e23 v24 e24 => ?_⟩⟩⟩
    rw [cc] at e22
    rw [cc, hm_sAA] at e23
    rw [e23]
    refine ih (c + 1) K _ _ (by omega) (by omega) (e24.trans (hs_inc c)) (fun k hk => ?_)
    by_cases x : k = c
    · exact (if_pos x).trans (e22.trans (congrArg (t.2.2.1 13) x.symm))
    · exact (if_neg x).trans (hP k (by omega))
theorem hq_drawn_loop {m n : Nat} {x0 a1 : Int32} {z : Int32 × (Nat → Int32) × (Nat → Int32) × (Nat → Int32) × (Nat → Int32)} {lj : Nat → Int64} {Q : Int32 → XT → Prop} (hm60 : m ≤ 60) {M : Nat} (hM : M ≤ 40) (ea : a1 = nI M)
    (hQ : ∀ r t' P, hq_key3 t' = z → t'.1 8 = x0 → hq_inv t' m n → (∀ k, k < m → P k = z.2.2.2.2 k) → Q r (sA t' 4 P)) :
    ∀ (d i K : Nat) (t : XT) (li : Nat → Int32), i + d = M → 2 * d + 3000 ≤ K → hq_inv t m n → hq_key3 t = z → 0 ≤ t.1 8 → li 1 = a1 → li 3 = x0 → li 7 = nI i → wpX12_drawn K 3 t li lj Q := by
  intro d
  induction d with
  | zero =>
    intro i K t li hd hK hI ez hx e1 e3 e7
    obtain ⟨K, rfl⟩ : ∃ K', K = K' + 1 := ⟨K - 1, by omega⟩
    show wbX12_drawn_3 (wpX12_drawn K) K t li lj Q
    refine ⟨fun _ t11 e11 => ?_, fun x => absurd (show li 1 ≤ li 7 by rw [e1, ea, e7]; exact nI_le (by omega) (by omega)) x⟩
    have hm : (sI t 8 (li 3)).1 3 = nI m := hI.1
    have g := hq_drawn_back (lj := lj) (Q := Q) hm60 (t := sI t 8 (li 3)) hm (fun r P hP => hQ r _ P ez (show li 3 = x0 from e3) (hq_frame (t := t) rfl rfl rfl rfl rfl rfl hI) (fun k hk => (hP k hk).trans (by rw [← ez]; rfl))) m 0 K (uI li 7 0) ((sI t 8 (li 3)).2.2.1 4) (by omega) (by omega) rfl (fun k hk => absurd hk (by omega))
    rw [hm_sA0] at g
    rw [e11]
    exact g
  | succ d ih =>
    intro i K t li hd hK hI ez hx e1 e3 e7
    obtain ⟨K, rfl⟩ : ∃ K', K = K' + 2 := ⟨K - 2, by omega⟩
    show wbX12_drawn_3 (wpX12_drawn (K + 1)) (K + 1) t li lj Q
    refine ⟨fun y => absurd (show nI M ≤ nI i by rw [← ea, ← e1, ← e7]; exact y) (nI_ge (by omega) (by omega)), fun _ => ?_⟩
    refine hq_drawnOnce hI hx (by omega) (fun r t' ek hx' hI' => ?_)
    have nx : ∀ li' : Nat → Int32, li' 1 = a1 → li' 3 = x0 → li' 7 = nI i → wpX12_drawn (K + 1) 4 t' li' lj Q := by
      intro li' b1 b3 b7
      show wbX12_drawn_4 (wpX12_drawn K) K t' li' lj Q
      intro v16 _ v17 _ v18 e18
      exact ih (i + 1) K t' _ (by omega) (by omega) hI' (ek.trans ez) hx' b1 b3 (by show v18 = _; rw [e18, b7]; exact hs_inc i)
    exact ⟨fun _ => ⟨fun _ => nx _ e1 e3 e7, fun _ v15 _ => nx _ e1 e3 e7⟩, fun _ => nx _ e1 e3 e7⟩
theorem hq_drawn_copy {m : Nat} {a1 a2 : Int32} {lj : Nat → Int64} {Q : Int32 → XT → Prop} (hm60 : m ≤ 60) {t : XT} (hm : t.1 3 = nI m) (L : Nat)
    (hQ : ∀ (K : Nat) (li G : Nat → Int32), L ≤ K → li 1 = a1 → li 3 = t.1 8 → li 7 = nI 0 → (∀ k, k < m → G k = t.2.2.1 4 k) → wpX12_drawn K 3 (sA t 13 G) li lj Q) :
    ∀ (d c K : Nat) (li G : Nat → Int32), c + d = m → d + L + 1 ≤ K → li 1 = a1 → li 3 = nI c → (∀ k, k < c → G k = t.2.2.1 4 k) → wpX12_drawn K 2 (sA t 13 G) li lj Q := by
  intro d
  induction d with
  | zero =>
    intro c K li G hd hK e1 e3 hG
    obtain ⟨K, rfl⟩ : ∃ K', K = K' + 1 := ⟨K - 1, by omega⟩
    obtain rfl : c = m := by omega
    show wbX12_drawn_2 (wpX12_drawn K) K (sA t 13 G) li lj Q
    exact ⟨fun _ => hQ K _ G (by omega) e1 rfl rfl hG, fun x => absurd (show t.1 3 ≤ li 3 by rw [hm, e3]; exact nI_le (by omega) (by omega)) x⟩
  | succ d ih =>
    intro c K li G hd hK e1 e3 hG
    obtain ⟨K, rfl⟩ : ∃ K', K = K' + 1 := ⟨K - 1, by omega⟩
    have cc : (nI c).toNatClampNeg = c := nI_clamp (by omega)
    show wbX12_drawn_2 (wpX12_drawn K) K (sA t 13 G) li lj Q
    unfold wbX12_drawn_2
    rw [e3]
    refine ⟨fun x => absurd (show t.1 3 ≤ nI c from x) (by rw [hm]; exact nI_ge (by omega) (by omega)), fun _ => ⟨vp_in_nI (by omega) (by decide), fun v7 e7 => ⟨vp_in_nI (by omega) (by decide), fun t8 e8 v9 e9 => ?_⟩⟩⟩
    rw [cc] at e7
    rw [cc, hm_sAA] at e8
    rw [e8]
    refine ih (c + 1) K _ _ (by omega) (by omega) e1 (e9.trans (hs_inc c)) (fun k hk => ?_)
    by_cases x : k = c
    · exact (if_pos x).trans (e7.trans (congrArg (t.2.2.1 4) x.symm))
    · exact (if_neg x).trans (hG k (by omega))
theorem hq_between {a : Int32} {lo hi : Nat} (hhi : hi < 2 ^ 31) (hlo : lo ≤ hi) (h : nI lo ≤ a ∧ a ≤ nI hi) : ∃ M, lo ≤ M ∧ M ≤ hi ∧ a = nI M := by
  have h1 := Int32.le_iff_toInt_le.mp h.1
  have h2 := Int32.le_iff_toInt_le.mp h.2
  rw [nI_toInt (by omega)] at h1 h2
  refine ⟨a.toInt.toNat, by omega, by omega, Int32.toInt_inj.mp ?_⟩
  rw [nI_toInt (by omega)]
  omega
theorem hq_drawn {t : XT} {m n K : Nat} {a b : Int32} {Q : Int32 → XT → Prop} (hI : hq_inv t m n) (hx : 0 ≤ t.1 8) (hK : 5000 ≤ K) (hQ : ∀ r t', hq_key t' = hq_key t → hq_inv t' m n → Q r t') : wqX12_drawn K t a b Q := by
  obtain ⟨K, rfl⟩ : ∃ K', K = K' + 1 := ⟨K - 1, by omega⟩
  have hm := hI.1
  have hm60 := hI.2.1
  have out : wpX12_drawn K 1 t (uI (uI (fun _ => 0) 1 a) 2 b) (fun _ => 0) Q := by
    obtain ⟨K, rfl⟩ : ∃ K', K = K' + 1 := ⟨K - 1, by omega⟩
    exact hQ (-1) t rfl hI
  show wbX12_drawn_0 (wpX12_drawn K) K t (uI (uI (fun _ => 0) 1 a) 2 b) (fun _ => 0) Q
  refine ⟨fun _ => out, fun _ => ?_⟩
  refine hm_in (v := a) (lo := 1) (hi := 40) (by omega) ?_
  by_cases ca : (1 : Int32) ≤ a ∧ a ≤ 40
  · rw [if_pos ca]
    refine ⟨fun c => absurd c (by decide), fun _ => ?_⟩
    refine hm_in (by omega) ⟨fun _ => ?_, fun _ => out⟩
    obtain ⟨M, _, hM, ea⟩ := hq_between (lo := 1) (hi := 40) (by omega) (by omega) ca
    obtain ⟨L, hL⟩ : ∃ L, L = 3200 := ⟨_, rfl⟩
    have g := hq_drawn_copy (lj := fun _ => 0) (Q := Q) (a1 := a) (a2 := b) hm60 hm L (fun K' li G hK' e1 e3 e7 hG => ?_) m 0 K (uI (uI (uI (fun _ => 0) 1 a) 2 b) 3 0) (t.2.2.1 13) (by omega) (by omega) rfl rfl (fun k hk => absurd hk (by omega))
    · rw [hm_sA0] at g
      exact g
    · refine hq_drawn_loop (n := n) (x0 := t.1 8) (z := hq_key3 (sA t 13 G)) hm60 hM ea (fun r t' P ek ex hI' hP => ?_) M 0 K' (sA t 13 G) li (by omega) (by omega) (hq_frame (t := t) rfl rfl rfl rfl rfl rfl hI) rfl hx e1 e3 e7
      have ek0 : t'.1 0 = t.1 0 := congrArg (fun q => q.1) ek
      have ek2 : t'.2.2.1 2 = t.2.2.1 2 := congrArg (fun q => q.2.1) ek
      have ek3 : t'.2.2.1 3 = t.2.2.1 3 := congrArg (fun q => q.2.2.1) ek
      have ek5 : t'.2.2.1 5 = t.2.2.1 5 := congrArg (fun q => q.2.2.2.1) ek
      have hl : ∀ j, hm_let (sA t' 4 P) j = hm_let t j := fun j => congrFun ek2 j
      have gd : hq_good t m (t.2.2.1 4) := by unfold hq_good; rw [hm_sA0]; exact ⟨hI.2.2.2.1, hI.2.2.2.2.1⟩
      have g2 := hq_good_of gd (sA t' 4 P) hl (fun k hk => (hP k hk).trans (hG k hk))
      obtain ⟨im, _, io, _, _, in16, i4, ip, iT⟩ := hI'
      refine hQ r _ ?_ ⟨im, hm60, io, g2.1, g2.2, in16, i4, fun j hj => hq_good_ext (t := t') (fun _ => rfl) (fun _ _ => rfl) (ip j hj), fun k hk q => (congrFun ek5 k).trans (hI.2.2.2.2.2.2.2.2.1 k hk (fun y => q (((hP k hk).trans (hG k hk)).trans y))), iT.2⟩
      show (t'.1 0, t'.1 8, t'.2.2.1 2, t'.2.2.1 3) = (t.1 0, t.1 8, t.2.2.1 2, t.2.2.1 3)
      rw [ek0, ex, ek2, ek3]
  · rw [if_neg ca]
    exact ⟨fun _ => out, fun c => absurd rfl c⟩
