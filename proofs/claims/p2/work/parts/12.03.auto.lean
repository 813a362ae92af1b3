/-! ===== reference, pure: clearsPairs, auto0, auto1 keep what its state keeps ===== -/
def hq_clr (c : Nat) (p : Nat → Int32) : Nat → Int32 := fun j => if j < c then -1 else p j
theorem hq_clr_step (c : Nat) (p : Nat → Int32) : upd (hq_clr c p) c (-1) = hq_clr (c + 1) p := by
  funext j
  show (if j = c then (-1 : Int32) else if j < c then -1 else p j) = if j < c + 1 then -1 else p j
  by_cases x : j = c
  · rw [if_pos x, if_pos (show j < c + 1 by omega)]
  · rw [if_neg x]
    by_cases y : j < c
    · rw [if_pos y, if_pos (show j < c + 1 by omega)]
    · rw [if_neg y, if_neg (show ¬ j < c + 1 by omega)]
theorem hq_clear_go {t : XT} {m : Nat} {lj : Nat → Int64} {Q : XT → Prop} (hm : t.1 3 = nI m) (hm60 : m ≤ 60) (hQ : Q (sA t 4 (hq_clr m (t.2.2.1 4)))) :
    ∀ (d c K : Nat) (li : Nat → Int32), c + d = m → d + 1 ≤ K → li 1 = nI c → wpX12_clearsPairs K 1 (sA t 4 (hq_clr c (t.2.2.1 4))) li lj Q := by
  intro d
  induction d with
  | zero =>
    intro c K li hd hK e1
    obtain ⟨K, rfl⟩ : ∃ K', K = K' + 1 := ⟨K - 1, by omega⟩
    obtain rfl : c = m := by omega
    show wbX12_clearsPairs_1 (wpX12_clearsPairs K) K (sA t 4 (hq_clr c (t.2.2.1 4))) li lj Q
    refine ⟨fun _ => hQ, fun x => absurd ?_ x⟩
    show t.1 3 ≤ li 1
    rw [hm, e1]; exact nI_le (by omega) (by omega)
  | succ d ih =>
    intro c K li hd hK e1
    obtain ⟨K, rfl⟩ : ∃ K', K = K' + 1 := ⟨K - 1, by omega⟩
    show wbX12_clearsPairs_1 (wpX12_clearsPairs K) K (sA t 4 (hq_clr c (t.2.2.1 4))) li lj Q
    unfold wbX12_clearsPairs_1
    rw [e1]
    refine ⟨fun x => absurd (show t.1 3 ≤ nI c from x) (by rw [hm]; exact nI_ge (by omega) (by omega)), fun _ => ⟨vp_in_nI (by omega) (by decide), fun t2 e2 v3 e3 => ?_⟩⟩
    have cc : (nI c).toNatClampNeg = c := nI_clamp (by omega)
    have e2' : t2 = sA t 4 (hq_clr (c + 1) (t.2.2.1 4)) := by
      rw [e2]
      show sA (sA t 4 (hq_clr c (t.2.2.1 4))) 4 (upd (hq_clr c (t.2.2.1 4)) (nI c).toNatClampNeg (-1)) = _
      rw [hm_sAA, cc, hq_clr_step]
    rw [e2']
    exact ih (c + 1) K (uI li 1 v3) (by omega) (by omega) (e3.trans (hs_inc c))
theorem hq_clearsPairs {t : XT} {m K : Nat} {Q : XT → Prop} (hm : t.1 3 = nI m) (hm60 : m ≤ 60) (hK : 70 ≤ K) (hQ : Q (sA t 4 (hq_clr m (t.2.2.1 4)))) : wqX12_clearsPairs K t Q := by
  obtain ⟨K, rfl⟩ : ∃ K', K = K' + 1 := ⟨K - 1, by omega⟩
  have g := hq_clear_go (lj := fun _ => 0) hm hm60 hQ m 0 K (uI (fun _ => 0) 1 0) (by omega) (by omega) rfl
  have z : hq_clr 0 (t.2.2.1 4) = t.2.2.1 4 := by
    funext j
    exact if_neg (by omega)
  rw [z, hm_sA0] at g
  exact g
theorem hq_clear_inv {t : XT} {m n : Nat} (hI : hq_inv t m n) : hq_inv (sA t 4 (hq_clr m (t.2.2.1 4))) m n := by
  obtain ⟨hm, hm60, ho, hM, hA, hn, h4, hp, hT⟩ := hI
  exact ⟨hm, hm60, ho, fun k hk => Or.inl (if_pos hk), hq_sub_acyc (t := t) (fun _ => rfl) (fun j hj => Or.inl (if_pos hj)) hA, hn, h4, fun j hj => hq_good_ext (t := t) (fun _ => rfl) (fun _ _ => rfl) (hp j hj), fun j hj q => absurd (if_pos hj) q, hT.2⟩
/-- couples inside a rule: whatever comes of it, the state is kept. -/
theorem hq_couples_inv {t : XT} {m n f s K : Nat} {Q : Int32 → XT → Prop} (hI : hq_inv t m n) (hf : f < m) (hs : s < m) (hF : hm_faceT t f s) (ef : hm_par t f = -1) (es : hm_par t s = -1) (hK : 30001 ≤ K) (hQ : ∀ r t', hq_key t' = hq_key t → hq_inv t' m n → Q r t') : wqX12_couples K t (nI f) (nI s) Q := by
  obtain ⟨hm, hm60, ho, hM, hA, hn, h4, hp, hT⟩ := hI
  refine hq_couples hm hm60 hf hs (ho f s hf hs hF.2.2) hF.2.2 hM ef es hK (fun hM1 hA1 F => ?_) (fun F => ?_)
  · exact hQ 1 _ rfl ⟨hm, hm60, ho, hM1, hA1, hn, h4, fun j hj => hq_good_ext (t := t) (fun _ => rfl) (fun _ _ => rfl) (hp j hj), hq_th_two hT hF.1 hF.2.1, hT.2⟩
  · exact hQ 0 _ rfl ⟨hm, hm60, ho, hM, hA, hn, h4, fun j hj => hq_good_ext (t := t) (fun _ => rfl) (fun _ _ => rfl) (hp j hj), hT⟩
theorem hq_auto0_in {m n f : Nat} {z : Int32 × Int32 × (Nat → Int32) × (Nat → Int32)} {lj : Nat → Int64} {Q : XT → Prop} (hf : f < m) (L : Nat) (hL : 40000 ≤ L)
    (cont : ∀ (K' : Nat) (t' : XT) (li' : Nat → Int32), L ≤ K' → hq_inv t' m n → hq_key t' = z → li' 1 = nI f → wpX12_auto0 K' 4 t' li' lj Q) :
    ∀ (d s K : Nat) (t : XT) (li : Nat → Int32), s + d = m → f < s → 2 * d + L + 1 ≤ K → hq_inv t m n → hq_key t = z → li 1 = nI f → li 2 = nI s → wpX12_auto0 K 2 t li lj Q := by
  intro d
  induction d with
  | zero =>
    intro s K t li hd hfs hK hI ez e1 e2
    obtain ⟨K, rfl⟩ : ∃ K', K = K' + 1 := ⟨K - 1, by omega⟩
    have hm := hI.1
    have hm60 := hI.2.1
    show wbX12_auto0_2 (wpX12_auto0 K) K t li lj Q
    refine ⟨fun _ => cont K t li (by omega) hI ez e1, fun x => absurd ?_ x⟩
    rw [hm, e2]; exact nI_le (by omega) (by omega)
  | succ d ih =>
    intro s K t li hd hfs hK hI ez e1 e2
    obtain ⟨K, rfl⟩ : ∃ K', K = K' + 2 := ⟨K - 2, by omega⟩
    have hm := hI.1
    have hm60 := hI.2.1
    have nx : ∀ t', hq_inv t' m n → hq_key t' = z → wpX12_auto0 (K + 1) 3 t' li lj Q := by
      intro t' hI' ez'
      show wbX12_auto0_3 (wpX12_auto0 K) K t' li lj Q
      intro v e
      have e : v = nI (s + 1) := by rw [e, e2]; exact hs_inc s
      exact ih (s + 1) K t' (uI li 2 v) (by omega) (by omega) (by omega) hI' ez' e1 e
    show wbX12_auto0_2 (wpX12_auto0 (K + 1)) (K + 1) t li lj Q
    unfold wbX12_auto0_2
    rw [e1, e2]
    refine ⟨fun x => absurd (show t.1 3 ≤ nI s from x) (by rw [hm]; exact nI_ge (by omega) (by omega)), fun _ => ?_⟩
    refine hm_isCritical hm hm60 (by omega) (fun j hj ej hc => ?_) (fun _ => ⟨fun _ => cont (K + 1) t li (by omega) hI ez e1, fun c => absurd rfl c⟩)
    refine ⟨fun c => absurd c (by decide), fun _ => ?_⟩
    refine hm_isFaceThere (by omega) (by omega) (by omega) (fun hF => ?_) (fun _ => ⟨fun _ => nx t hI ez, fun c => absurd rfl c⟩)
    refine ⟨fun c => absurd c (by decide), fun _ => ?_⟩
    refine hq_isFree (by omega) (by omega) (by omega) (fun ef es => ?_) (fun _ => ⟨fun _ => nx t hI ez, fun c => absurd rfl c⟩)
    refine ⟨fun c => absurd c (by decide), fun _ => ?_⟩
    exact hq_couples_inv hI hf (by omega) hF ef es (by omega) (fun r t' a b => nx t' b (a.trans ez))
theorem hq_auto0_out {m n : Nat} {z : Int32 × Int32 × (Nat → Int32) × (Nat → Int32)} {lj : Nat → Int64} {Q : XT → Prop} (hQ : ∀ t', hq_key t' = z → hq_inv t' m n → Q t') :
    ∀ (d f K : Nat) (t : XT) (li : Nat → Int32), f + d = m → 200 * d + 41000 ≤ K → hq_inv t m n → hq_key t = z → li 1 = nI f → wpX12_auto0 K 1 t li lj Q := by
  intro d
  induction d with
  | zero =>
    intro f K t li hd hK hI ez e1
    obtain ⟨K, rfl⟩ : ∃ K', K = K' + 1 := ⟨K - 1, by omega⟩
    have hm := hI.1
    have hm60 := hI.2.1
    show wbX12_auto0_1 (wpX12_auto0 K) K t li lj Q
    refine ⟨fun _ => hQ t ez hI, fun x => absurd ?_ x⟩
    rw [hm, e1]; exact nI_le (by omega) (by omega)
  | succ d ih =>
    intro f K t li hd hK hI ez e1
    obtain ⟨K, rfl⟩ : ∃ K', K = K' + 1 := ⟨K - 1, by omega⟩
    have hm := hI.1
    have hm60 := hI.2.1
    show wbX12_auto0_1 (wpX12_auto0 K) K t li lj Q
    unfold wbX12_auto0_1
    rw [e1]
    refine ⟨fun x => absurd (show t.1 3 ≤ nI f from x) (by rw [hm]; exact nI_ge (by omega) (by omega)), fun _ v2 e2 => ?_⟩
    have e2 : v2 = nI (f + 1) := e2.trans (nI_1 f)
    obtain ⟨L, hL⟩ : ∃ L, L = 200 * d + 41001 := ⟨_, rfl⟩
    refine hq_auto0_in (m := m) (n := n) (f := f) (z := z) (by omega) L (by omega) (fun K' t' li' hK' hI' ez' e1' => ?_) (m - (f + 1)) (f + 1) K t (uI li 2 v2) (by omega) (by omega) (by omega) hI ez e1 e2
    obtain ⟨K', rfl⟩ : ∃ K'', K' = K'' + 1 := ⟨K' - 1, by omega⟩
    show wbX12_auto0_4 (wpX12_auto0 K') K' t' li' lj Q
    intro v e
    have e : v = nI (f + 1) := by rw [e, e1']; exact hs_inc f
    exact ih (f + 1) K' t' (uI li' 1 v) (by omega) (by omega) hI' ez' e
theorem hq_auto0 {t : XT} {m n K : Nat} {Q : XT → Prop} (hI : hq_inv t m n) (hK : 60000 ≤ K) (hQ : ∀ t', hq_key t' = hq_key t → hq_inv t' m n → Q t') : wqX12_auto0 K t Q := by
  obtain ⟨K, rfl⟩ : ∃ K', K = K' + 1 := ⟨K - 1, by omega⟩
  have hm60 := hI.2.1
  exact hq_auto0_out (lj := fun _ => 0) hQ m 0 K t (uI (fun _ => 0) 1 0) (by omega) (by omega) hI rfl rfl
theorem hq_dec (c : Nat) : nI c + Int32.ofInt (-1) = nI c - 1 := (Int32.sub_eq_add_neg (nI c) 1).symm
theorem hq_auto1_in {m n s : Nat} {z : Int32 × Int32 × (Nat → Int32) × (Nat → Int32)} {lj : Nat → Int64} {Q : XT → Prop} (hs : s < m) (L : Nat) (hL : 40000 ≤ L)
    (cont : ∀ (K' : Nat) (t' : XT) (li' : Nat → Int32), L ≤ K' → hq_inv t' m n → hq_key t' = z → li' 1 = nI s → wpX12_auto1 K' 4 t' li' lj Q) :
    ∀ (c K : Nat) (t : XT) (li : Nat → Int32), c ≤ s → 2 * c + L + 1 ≤ K → hq_inv t m n → hq_key t = z → li 1 = nI s → li 2 = nI c - 1 → wpX12_auto1 K 2 t li lj Q := by
  intro c
  induction c with
  | zero =>
    intro K t li hc hK hI ez e1 e2
    obtain ⟨K, rfl⟩ : ∃ K', K = K' + 1 := ⟨K - 1, by omega⟩
    show wbX12_auto1_2 (wpX12_auto1 K) K t li lj Q
    refine ⟨fun _ => cont K t li (by omega) hI ez e1, fun x => absurd ?_ x⟩
    rw [e2]; decide
  | succ f ih =>
    intro K t li hc hK hI ez e1 e2
    obtain ⟨K, rfl⟩ : ∃ K', K = K' + 2 := ⟨K - 2, by omega⟩
    have hm := hI.1
    have hm60 := hI.2.1
    have e2 : li 2 = nI f := e2.trans (nI_pred f)
    have nx : ∀ t', hq_inv t' m n → hq_key t' = z → wpX12_auto1 (K + 1) 3 t' li lj Q := by
      intro t' hI' ez'
      show wbX12_auto1_3 (wpX12_auto1 K) K t' li lj Q
      intro v e
      have e : v = nI f - 1 := by rw [e, e2]; exact hq_dec f
      exact ih K t' (uI li 2 v) (by omega) (by omega) hI' ez' e1 e
    show wbX12_auto1_2 (wpX12_auto1 (K + 1)) (K + 1) t li lj Q
    unfold wbX12_auto1_2
    rw [e1, e2]
    refine ⟨fun x => absurd x (nI_pos (by omega)), fun _ => ?_⟩
    refine hm_isCritical hm hm60 (by omega) (fun j hj ej hc => ?_) (fun _ => ⟨fun _ => cont (K + 1) t li (by omega) hI ez e1, fun c => absurd rfl c⟩)
    refine ⟨fun c => absurd c (by decide), fun _ => ?_⟩
    refine hm_isFaceThere (by omega) (by omega) (by omega) (fun hF => ?_) (fun _ => ⟨fun _ => nx t hI ez, fun c => absurd rfl c⟩)
    refine ⟨fun c => absurd c (by decide), fun _ => ?_⟩
    refine hq_isFree (by omega) (by omega) (by omega) (fun ef es => ?_) (fun _ => ⟨fun _ => nx t hI ez, fun c => absurd rfl c⟩)
    refine ⟨fun c => absurd c (by decide), fun _ => ?_⟩
    exact hq_couples_inv hI (by omega) hs hF ef es (by omega) (fun r t' a b => nx t' b (a.trans ez))
theorem hq_auto1_out {m n : Nat} {z : Int32 × Int32 × (Nat → Int32) × (Nat → Int32)} {lj : Nat → Int64} {Q : XT → Prop} (hQ : ∀ t', hq_key t' = z → hq_inv t' m n → Q t') :
    ∀ (c K : Nat) (t : XT) (li : Nat → Int32), c ≤ m → 200 * c + 41000 ≤ K → hq_inv t m n → hq_key t = z → li 1 = nI c - 1 → wpX12_auto1 K 1 t li lj Q := by
  intro c
  induction c with
  | zero =>
    intro K t li hc hK hI ez e1
    obtain ⟨K, rfl⟩ : ∃ K', K = K' + 1 := ⟨K - 1, by omega⟩
    show wbX12_auto1_1 (wpX12_auto1 K) K t li lj Q
    refine ⟨fun _ => hQ t ez hI, fun x => absurd ?_ x⟩
    rw [e1]; decide
  | succ s ih =>
    intro K t li hc hK hI ez e1
    obtain ⟨K, rfl⟩ : ∃ K', K = K' + 1 := ⟨K - 1, by omega⟩
    have hm60 := hI.2.1
    have e1 : li 1 = nI s := e1.trans (nI_pred s)
    show wbX12_auto1_1 (wpX12_auto1 K) K t li lj Q
    unfold wbX12_auto1_1
    rw [e1]
    refine ⟨fun x => absurd x (nI_pos (by omega)), fun _ v3 e3 => ?_⟩
    obtain ⟨L, hL⟩ : ∃ L, L = 200 * s + 41001 := ⟨_, rfl⟩
    refine hq_auto1_in (m := m) (n := n) (s := s) (z := z) (by omega) L (by omega) (fun K' t' li' hK' hI' ez' e1' => ?_) s K t (uI li 2 v3) (Nat.le_refl _) (by omega) hI ez e1 e3
    obtain ⟨K', rfl⟩ : ∃ K'', K' = K'' + 1 := ⟨K' - 1, by omega⟩
    show wbX12_auto1_4 (wpX12_auto1 K') K' t' li' lj Q
    intro v e
    have e : v = nI s - 1 := by rw [e, e1']; exact hq_dec s
    exact ih K' t' (uI li' 1 v) (by omega) (by omega) hI' ez' e
theorem hq_auto1 {t : XT} {m n K : Nat} {Q : XT → Prop} (hI : hq_inv t m n) (hK : 60000 ≤ K) (hQ : ∀ t', hq_key t' = hq_key t → hq_inv t' m n → Q t') : wqX12_auto1 K t Q := by
  obtain ⟨K, rfl⟩ : ∃ K', K = K' + 1 := ⟨K - 1, by omega⟩
  have hm60 := hI.2.1
  show wbX12_auto1_0 (wpX12_auto1 K) K t (fun _ => 0) (fun _ => 0) Q
  intro v e
  have e : v = nI m - 1 := by rw [e, hI.1]
  exact hq_auto1_out (lj := fun _ => 0) hQ m K t (uI (fun _ => 0) 1 v) (Nat.le_refl _) (by omega) hI rfl e
