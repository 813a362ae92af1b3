/-! ===== reference, pure: squareOf, squares, takes ===== -/
theorem hq_sq_go {m n s e : Nat} {z : Int32 × Int32 × (Nat → Int32) × (Nat → Int32)} {Q : Int64 → XT → Prop} (hs : s < m) (he : e < m) (hQ : ∀ r t', hq_key t' = z → hq_inv t' m n → Q r t') :
    ∀ (d c K : Nat) (t : XT) (li : Nat → Int32) (lj : Nat → Int64), c + d = m → 2 * d + 30010 ≤ K → hq_inv t m n → hq_key t = z → li 1 = nI s → li 2 = nI e → li 5 = nI c → wpX12_squareOf K 1 t li lj Q := by
  intro d
  induction d with
  | zero =>
    intro c K t li lj hd hK hI ez e1 e2 e5
    obtain ⟨K, rfl⟩ : ∃ K', K = K' + 1 := ⟨K - 1, by omega⟩
    have hm := hI.1
    have hm60 := hI.2.1
    show wbX12_squareOf_1 (wpX12_squareOf K) K t li lj Q
    exact ⟨fun _ => hQ _ t ez hI, fun x => absurd (by rw [hm, e5]; exact nI_le (by omega) (by omega)) x⟩
  | succ d ih =>
    intro c K t li lj hd hK hI ez e1 e2 e5
    obtain ⟨K, rfl⟩ : ∃ K', K = K' + 2 := ⟨K - 2, by omega⟩
    have hm := hI.1
    have hm60 := hI.2.1
    have nx : ∀ (t' : XT) (lj' : Nat → Int64), hq_inv t' m n → hq_key t' = z → wpX12_squareOf (K + 1) 2 t' li lj' Q := by
      intro t' lj' hI' ez'
      show wbX12_squareOf_2 (wpX12_squareOf K) K t' li lj' Q
      intro v ev
      exact ih (c + 1) K t' (uI li 5 v) lj' (by omega) (by omega) hI' ez' e1 e2 (by show v = _; rw [ev, e5]; exact hs_inc c)
    show wbX12_squareOf_1 (wpX12_squareOf (K + 1)) (K + 1) t li lj Q
    unfold wbX12_squareOf_1
    rw [e1, e2, e5]
    refine ⟨fun _ => hQ _ t ez hI, fun _ => ?_⟩
    refine hq_areEnds hm hm60 (by omega) (fun _ _ _ _ _ _ _ _ _ => ?_) ⟨fun _ => nx t lj hI ez, fun x => absurd rfl x⟩
    refine ⟨fun x => absurd x (by decide), fun _ => ?_⟩
    refine hq_areEnds hm hm60 (by omega) (fun _ _ _ _ _ _ _ _ _ => ?_) ⟨fun _ => nx t lj hI ez, fun x => absurd rfl x⟩
    refine ⟨fun x => absurd x (by decide), fun _ => ?_⟩
    refine hq_incidenceOf hm hm60 hI.2.2.2.1 hs (show c < m by omega) (by omega) (fun r W G => ?_)
    have hI2 : hq_inv (hq_w t W G) m n := hq_frame rfl rfl rfl rfl rfl rfl hI
    refine hq_incidenceOf hI2.1 hm60 hI2.2.2.2.1 (show c < m by omega) he (by omega) (fun r2 W2 G2 => ?_)
    have hI3 : hq_inv (hq_w (hq_w t W G) W2 G2) m n := hq_frame rfl rfl rfl rfl rfl rfl hI2
    exact fun v8 _ v9 _ => nx _ _ hI3 ez
theorem hq_squareOf {t : XT} {m n s e K : Nat} {Q : Int64 → XT → Prop} (hI : hq_inv t m n) (hs : s < m) (he : e < m) (hK : 30200 ≤ K) (hQ : ∀ r t', hq_key t' = hq_key t → hq_inv t' m n → Q r t') : wqX12_squareOf K t (nI s) (nI e) Q := by
  obtain ⟨K, rfl⟩ : ∃ K', K = K' + 1 := ⟨K - 1, by omega⟩
  have hm60 := hI.2.1
  exact hq_sq_go hs he hQ m 0 K t _ _ (by omega) (by omega) hI rfl rfl rfl rfl
theorem hq_squares_in {m n s : Nat} {z : Int32 × Int32 × (Nat → Int32) × (Nat → Int32)} {lj : Nat → Int64} {Q : Int32 → XT → Prop} (hs : s < m) (L : Nat) (hL : 31000 ≤ L)
    (cont : ∀ (K' : Nat) (t' : XT) (li' : Nat → Int32), L ≤ K' → hq_inv t' m n → hq_key t' = z → li' 2 = nI (s + 1) → wpX12_squares K' 1 t' li' lj Q) :
    ∀ (d c K : Nat) (t : XT) (li : Nat → Int32), c + d = m → 3 * d + L + 1 ≤ K → hq_inv t m n → hq_key t = z → li 2 = nI s → li 3 = nI c → wpX12_squares K 2 t li lj Q := by
  intro d
  induction d with
  | zero =>
    intro c K t li hd hK hI ez e2 e3
    obtain ⟨K, rfl⟩ : ∃ K', K = K' + 1 := ⟨K - 1, by omega⟩
    have hm := hI.1
    have hm60 := hI.2.1
    show wbX12_squares_2 (wpX12_squares K) K t li lj Q
    exact ⟨fun _ v e => cont K t (uI li 2 v) (by omega) hI ez (by show v = _; rw [e, e2]; exact hs_inc s), fun x => absurd (by rw [hm, e3]; exact nI_le (by omega) (by omega)) x⟩
  | succ d ih =>
    intro c K t li hd hK hI ez e2 e3
    obtain ⟨K, rfl⟩ : ∃ K', K = K' + 3 := ⟨K - 3, by omega⟩
    have hm := hI.1
    have hm60 := hI.2.1
    have nx : ∀ (K' : Nat) (t' : XT) (li' : Nat → Int32), K + 1 ≤ K' → hq_inv t' m n → hq_key t' = z → li' 2 = nI s → li' 3 = nI c → wpX12_squares K' 4 t' li' lj Q := by
      intro K' t' li' hK' hI' ez' a2 a3
      obtain ⟨K', rfl⟩ : ∃ K'', K' = K'' + 1 := ⟨K' - 1, by omega⟩
      show wbX12_squares_4 (wpX12_squares K') K' t' li' lj Q
      intro v e
      exact ih (c + 1) K' t' (uI li' 3 v) (by omega) (by omega) hI' ez' a2 (by show v = _; rw [e, a3]; exact hs_inc c)
    have nx3 : ∀ (t' : XT) (li' : Nat → Int32), hq_inv t' m n → hq_key t' = z → li' 2 = nI s → li' 3 = nI c → wpX12_squares (K + 2) 3 t' li' lj Q := by
      intro t' li' hI' ez' a2 a3
      show wbX12_squares_3 (wpX12_squares (K + 1)) (K + 1) t' li' lj Q
      exact hm_truth (by omega) (fun v _ => nx (K + 1) t' (uI li' 1 v) (by omega) hI' ez' a2 a3)
    show wbX12_squares_2 (wpX12_squares (K + 2)) (K + 2) t li lj Q
    unfold wbX12_squares_2
    rw [e2, e3]
    refine ⟨fun x => absurd (show t.1 3 ≤ nI c from x) (by rw [hm]; exact nI_ge (by omega) (by omega)), fun _ => ?_⟩
    refine hm_isCritical hm hm60 (by omega) (fun _ _ _ _ => ?_) (fun _ => ⟨fun _ => nx _ t li (by omega) hI ez e2 e3, fun x => absurd rfl x⟩)
    refine ⟨fun x => absurd x (by decide), fun _ => ?_⟩
    refine hm_isCritical hm hm60 (by omega) (fun _ _ _ _ => ?_) (fun _ => ⟨fun _ => nx _ t li (by omega) hI ez e2 e3, fun x => absurd rfl x⟩)
    refine ⟨fun x => absurd x (by decide), fun _ => ?_⟩
    refine hm_dimOf (by omega) (by omega) ?_
    refine hm_dimOf (by omega) (by omega) ?_
    intro v10 _
    refine ⟨fun _ => nx _ t li (by omega) hI ez e2 e3, fun _ => ?_⟩
    refine hq_squareOf hI hs (show c < m by omega) (by omega) (fun r t' a b => ?_)
    exact fun v13 _ => ⟨fun _ => nx3 t' _ b (a.trans ez) e2 e3, fun _ => nx3 t' _ b (a.trans ez) e2 e3⟩
theorem hq_squares_out {m n : Nat} {z : Int32 × Int32 × (Nat → Int32) × (Nat → Int32)} {lj : Nat → Int64} {Q : Int32 → XT → Prop} (hQ : ∀ r t', hq_key t' = z → hq_inv t' m n → Q r t') :
    ∀ (d s K : Nat) (t : XT) (li : Nat → Int32), s + d = m → 300 * d + 32000 ≤ K → hq_inv t m n → hq_key t = z → li 2 = nI s → wpX12_squares K 1 t li lj Q := by
  intro d
  induction d with
  | zero =>
    intro s K t li hd hK hI ez e2
    obtain ⟨K, rfl⟩ : ∃ K', K = K' + 1 := ⟨K - 1, by omega⟩
    have hm := hI.1
    have hm60 := hI.2.1
    show wbX12_squares_1 (wpX12_squares K) K t li lj Q
    exact ⟨fun _ => hQ _ t ez hI, fun x => absurd (by rw [hm, e2]; exact nI_le (by omega) (by omega)) x⟩
  | succ d ih =>
    intro s K t li hd hK hI ez e2
    obtain ⟨K, rfl⟩ : ∃ K', K = K' + 1 := ⟨K - 1, by omega⟩
    have hm := hI.1
    have hm60 := hI.2.1
    show wbX12_squares_1 (wpX12_squares K) K t li lj Q
    refine ⟨fun _ => hQ _ t ez hI, fun _ => ?_⟩
    obtain ⟨L, hL⟩ : ∃ L, L = 300 * d + 32001 := ⟨_, rfl⟩
    exact hq_squares_in (m := m) (n := n) (s := s) (z := z) (by omega) L (by omega) (fun K' t' li' hK' hI' ez' a => ih (s + 1) K' t' li' (by omega) (by omega) hI' ez' a) m 0 K t (uI li 3 0) (by omega) (by omega) hI ez e2 rfl
theorem hq_squares {t : XT} {m n K : Nat} {Q : Int32 → XT → Prop} (hI : hq_inv t m n) (hK : 51000 ≤ K) (hQ : ∀ r t', hq_key t' = hq_key t → hq_inv t' m n → Q r t') : wqX12_squares K t Q := by
  obtain ⟨K, rfl⟩ : ∃ K', K = K' + 1 := ⟨K - 1, by omega⟩
  have hm60 := hI.2.1
  exact hq_squares_out (lj := fun _ => 0) hQ m 0 K t _ (by omega) (by omega) hI rfl rfl
theorem hq_takes_go {t : XT} {m : Nat} {lj : Nat → Int64} {Q : XT → Prop} (hm : t.1 3 = nI m) (hm60 : m ≤ 60) (hQ : ∀ G, Q (sA t 11 G)) :
    ∀ (d c K : Nat) (li : Nat → Int32) (G : Nat → Int32), c + d = m → 2 * d + 10 ≤ K → li 2 = nI c → wpX12_takes K 1 (sA t 11 G) li lj Q := by
  intro d
  induction d with
  | zero =>
    intro c K li G hd hK e2
    obtain ⟨K, rfl⟩ : ∃ K', K = K' + 1 := ⟨K - 1, by omega⟩
    show wbX12_takes_1 (wpX12_takes K) K (sA t 11 G) li lj Q
    refine ⟨fun _ => hQ G, fun x => absurd ?_ x⟩
    show t.1 3 ≤ li 2
    rw [hm, e2]; exact nI_le (by omega) (by omega)
  | succ d ih =>
    intro c K li G hd hK e2
    obtain ⟨K, rfl⟩ : ∃ K', K = K' + 2 := ⟨K - 2, by omega⟩
    have nx : ∀ b : Int32, wpX12_takes (K + 1) 2 (sA t 11 G) (uI (uI li 102 b) 101 (nI c)) lj Q := by
      intro b
      show wbX12_takes_2 (wpX12_takes K) K (sA t 11 G) (uI (uI li 102 b) 101 (nI c)) lj Q
      refine ⟨vp_in_nI (n := c) (by omega) (by decide), fun t6 e6 v7 e7 => ?_⟩
      rw [hm_sAA] at e6
      rw [e6]
      exact ih (c + 1) K _ _ (by omega) (by omega) (by show v7 = _; rw [e7]; exact (congrArg (· + Int32.ofInt 1) e2).trans (hs_inc c))
    show wbX12_takes_1 (wpX12_takes (K + 1)) (K + 1) (sA t 11 G) li lj Q
    unfold wbX12_takes_1
    rw [e2]
    refine ⟨fun x => absurd (show t.1 3 ≤ nI c from x) (by rw [hm]; exact nI_ge (by omega) (by omega)), fun _ => ⟨fun _ => ?_, fun _ => ?_⟩⟩
    · exact hm_isCritical (t := sA t 11 G) hm hm60 (by omega) (fun _ _ _ _ => nx 1) (fun _ => nx 0)
    · exact ⟨vp_in_nI (by omega) (by decide), fun v4 _ => ⟨fun _ => nx 0, fun _ => nx 1⟩⟩
theorem hq_takes {t : XT} {m K : Nat} {a : Int32} {Q : XT → Prop} (hm : t.1 3 = nI m) (hm60 : m ≤ 60) (hK : 200 ≤ K) (hQ : ∀ G, Q (sA t 11 G)) : wqX12_takes K t a Q := by
  obtain ⟨K, rfl⟩ : ∃ K', K = K' + 1 := ⟨K - 1, by omega⟩
  have g := hq_takes_go (lj := fun _ => 0) hm hm60 hQ m 0 K (uI (uI (fun _ => 0) 1 a) 2 0) (t.2.2.1 11) (by omega) (by omega) rfl
  rw [hm_sA0] at g
  exact g
