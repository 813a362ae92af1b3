/-! ===== the class, pure: a text read, the COMPLEX built; complex ===== -/
theorem hz_at {t : XT} {y p K : Nat} {Q : Int32 → XT → Prop} (h1 : t.1 1 = nI y) (hy : y ≤ 160) (hp : p < 2 ^ 30) (hK : 2 ≤ K) (h : ∀ v, Q v t) : wqX10_at K t (nI p) Q := by
  obtain ⟨K, rfl⟩ : ∃ K', K = K' + 2 := ⟨K - 2, by omega⟩
  have out : wpX10_at (K + 1) 1 t (uI (fun _ => 0) 1 (nI p)) (fun _ => 0) Q := h _
  show wbX10_at_0 (wpX10_at (K + 1)) (K + 1) t (uI (fun _ => 0) 1 (nI p)) (fun _ => 0) Q
  refine ⟨fun _ => out, fun _ => ⟨fun _ => out, fun lt => ?_⟩⟩
  have lt : ¬ t.1 1 ≤ nI p := lt
  rw [h1] at lt
  have hlt : p < y := Nat.lt_of_not_le (fun q => lt (nI_le q (by omega)))
  exact ⟨vp_in_nI (n := p) (by omega) (by decide), fun v _ => h v⟩
theorem hz_isLetter {K : Nat} {a : Int32} {Q : Int32 → Prop} (hK : 2 ≤ K) (h1 : Q 1) (h0 : Q 0) : wqX8_isLetter K a Q := by
  obtain ⟨K, rfl⟩ : ∃ K', K = K' + 2 := ⟨K - 2, by omega⟩
  exact ⟨fun _ => h0, fun _ => ⟨fun _ => h0, fun _ => h1⟩⟩
theorem hz_fault {K : Nat} {a b : Int32} {Q : Int32 → Prop} (hK : 1 ≤ K) (h : ∀ v, Q v) : wqX8_fault K a b Q := by
  obtain ⟨K, rfl⟩ : ∃ K', K = K' + 1 := ⟨K - 1, by omega⟩
  exact fun v1 _ v2 _ => h v2
/-- what is read: y bytes, p the place -/
def hx_rd (t : XT) (y m p : Nat) : Prop := hx_inv t (nI y) m ∧ t.1 3 = nI p ∧ p ≤ y ∧ y ≤ 160
theorem hx_rd_on {t : XT} {y m p : Nat} (h : hx_rd t y m p) (lt : p < y) {v : Int32} (e : v = t.1 3 + 1) : hx_rd (sI t 3 v) y m (p + 1) := by
  refine ⟨?_, ?_, lt, h.2.2.2⟩
  · have hI := h.1
    exact hx_frame hI rfl rfl rfl rfl rfl rfl hI.2.2.2.2.2.2.2.1 rfl rfl
  · show v = _
    rw [e, h.2.1]; exact nI_1 p
theorem hz_skip_go {y m : Nat} {Q : XT → Prop} (hQ : ∀ p t', hx_rd t' y m p → Q t') :
    ∀ (d p K : Nat) (t : XT) (li : Nat → Int32) (lj : Nat → Int64), p + d = y → d + 5 ≤ K → hx_rd t y m p → wpX8_skipBlanks_c1 K 0 t li lj Q := by
  intro d
  induction d with
  | zero =>
    intro p K t li lj hd hK hR
    obtain ⟨K, rfl⟩ : ∃ K', K = K' + 1 := ⟨K - 1, by omega⟩
    show wbX8_skipBlanks_c1_0 (wpX8_skipBlanks_c1 K) K t li lj Q
    exact ⟨fun _ => hQ p t hR, fun x => absurd (by rw [hR.1.1, hR.2.1]; exact nI_le (by omega) (by have := hR.2.2; omega)) x⟩
  | succ d ih =>
    intro p K t li lj hd hK hR
    obtain ⟨K, rfl⟩ : ∃ K', K = K' + 1 := ⟨K - 1, by omega⟩
    have y160 := hR.2.2.2
    show wbX8_skipBlanks_c1_0 (wpX8_skipBlanks_c1 K) K t li lj Q
    refine ⟨fun _ => hQ p t hR, fun _ => ?_⟩
    rw [hR.2.1]
    refine hz_at hR.1.1 y160 (by omega) (by omega) (fun v => ⟨fun _ => hQ p t hR, fun _ v4 e4 t5 e5 => ?_⟩)
    exact ih (p + 1) K t5 li lj (by omega) (by omega) (by rw [e5]; exact hx_rd_on hR (by omega) e4)
theorem hz_skipBlanks {t : XT} {y m p K : Nat} {Q : XT → Prop} (hR : hx_rd t y m p) (hK : 170 ≤ K) (hQ : ∀ p t', hx_rd t' y m p → Q t') : wqX8_skipBlanks_c1 K t Q := by
  have h1 := hR.2.2
  exact hz_skip_go hQ (y - p) p K t _ _ (by omega) (by omega) hR
theorem hz_tell_go {y m p : Nat} {lj : Nat → Int64} {Q : XT → Prop} (hQ : ∀ t', hx_rd t' y m p → Q t') :
    ∀ (d i K : Nat) (t : XT) (li : Nat → Int32), i + d = 256 → 2 * d + 5 ≤ K → hx_rd t y m p → li 2 = nI i → wpX8_tell K 1 t li lj Q := by
  intro d
  induction d with
  | zero =>
    intro i K t li hd hK hR e2
    obtain ⟨K, rfl⟩ : ∃ K', K = K' + 1 := ⟨K - 1, by omega⟩
    obtain rfl : i = 256 := by omega
    show wbX8_tell_1 (wpX8_tell K) K t li lj Q
    exact ⟨fun _ => hQ t hR, fun _ => ⟨fun _ => hQ t hR, fun x => absurd (show nI 256 ≤ li 2 by rw [e2]; exact nI_le (by omega) (by omega)) x⟩⟩
  | succ d ih =>
    intro i K t li hd hK hR e2
    obtain ⟨K, rfl⟩ : ∃ K', K = K' + 2 := ⟨K - 2, by omega⟩
    have nx : ∀ (t' : XT), hx_rd t' y m p → wpX8_tell (K + 1) 2 t' li lj Q := by
      intro t' hR'
      show wbX8_tell_2 (wpX8_tell K) K t' li lj Q
      intro v e
      exact ih (i + 1) K t' _ (by omega) (by omega) hR' (by show v = _; rw [e, e2]; exact hs_inc i)
    show wbX8_tell_1 (wpX8_tell (K + 1)) (K + 1) t li lj Q
    have hin : vp_in (li 2) 256 := by rw [e2]; exact vp_in_nI (by omega) (by decide)
    refine ⟨fun _ => hQ t hR, fun _ => ⟨fun _ => hQ t hR, fun _ v3 _ v4 _ => ⟨fun _ => nx t hR, fun _ => ⟨hin, fun v6 _ => ⟨fun _ => nx t hR, fun _ => ⟨hin, fun t8 e8 v9 _ t10 e10 => nx t10 ?_⟩⟩⟩⟩⟩⟩
    subst e10 e8
    have hI := hR.1
    exact ⟨hx_frame hI rfl rfl rfl rfl rfl rfl hI.2.2.2.2.2.2.2.1 rfl rfl, hR.2.1, hR.2.2⟩
theorem hz_tell {t : XT} {y m p K : Nat} {a : Int32} {Q : XT → Prop} (hR : hx_rd t y m p) (hK : 600 ≤ K) (hQ : ∀ t', hx_rd t' y m p → Q t') : wqX8_tell K t a Q := by
  obtain ⟨K, rfl⟩ : ∃ K', K = K' + 1 := ⟨K - 1, by omega⟩
  exact hz_tell_go hQ 255 1 K t _ (by omega) (by omega) hR rfl
theorem hz_rf_go {y m : Nat} {lj : Nat → Int64} {Q : Int32 → XT → Prop} (hQ : ∀ r p t', hx_rd t' y m p → Q r t') :
    ∀ (d p K : Nat) (t : XT) (li : Nat → Int32), p + d = y → d + 700 ≤ K → hx_rd t y m p → wpX8_readFacet_c1 K 1 t li lj Q := by
  have two : ∀ (p K : Nat) (t : XT) (li : Nat → Int32), 650 ≤ K → hx_rd t y m p → wpX8_readFacet_c1 K 2 t li lj Q := by
    intro p K t li hK hR
    obtain ⟨K, rfl⟩ : ∃ K', K = K' + 1 := ⟨K - 1, by omega⟩
    show wbX8_readFacet_c1_2 (wpX8_readFacet_c1 K) K t li lj Q
    exact hz_tell hR (by omega) (fun t23 h23 => ⟨fun _ => hQ _ p t23 h23, fun _ => hz_fault (by omega) (fun v => hQ v p t23 h23)⟩)
  intro d
  induction d with
  | zero =>
    intro p K t li hd hK hR
    obtain ⟨K, rfl⟩ : ∃ K', K = K' + 1 := ⟨K - 1, by omega⟩
    show wbX8_readFacet_c1_1 (wpX8_readFacet_c1 K) K t li lj Q
    exact ⟨fun _ => two p K t li (by omega) hR, fun x => absurd (by rw [hR.1.1, hR.2.1]; exact nI_le (by omega) (by have := hR.2.2; omega)) x⟩
  | succ d ih =>
    intro p K t li hd hK hR
    obtain ⟨K, rfl⟩ : ∃ K', K = K' + 1 := ⟨K - 1, by omega⟩
    have y160 := hR.2.2.2
    show wbX8_readFacet_c1_1 (wpX8_readFacet_c1 K) K t li lj Q
    refine ⟨fun _ => two p K t li (by omega) hR, fun _ => ?_⟩
    rw [hR.2.1]
    refine hz_at hR.1.1 y160 (by omega) (by omega) (fun v8 => hz_isLetter (by omega) ⟨fun x => absurd x (by decide), fun _ => ?_⟩ ⟨fun _ => two p K t li (by omega) hR, fun x => absurd rfl x⟩)
    rw [hR.2.1]
    refine hz_at hR.1.1 y160 (by omega) (by omega) (fun v11 v12 _ v13 _ v14 _ => ⟨fun _ => hm_bitCount (by omega) ⟨fun _ v18 _ v19 e19 t20 e20 => ?_, fun _ => hz_fault (by omega) (fun v => hQ v p t hR)⟩, fun _ => hz_fault (by omega) (fun v => hQ v p t hR)⟩)
    exact ih (p + 1) K t20 _ (by omega) (by omega) (by rw [e20]; exact hx_rd_on hR (by omega) (e19.trans (by rw [hR.2.1])))
theorem hz_readFacet {t : XT} {y m p K : Nat} {a : Int32} {Q : Int32 → XT → Prop} (hR : hx_rd t y m p) (hK : 900 ≤ K) (hQ : ∀ r p t', hx_rd t' y m p → Q r t') : wqX8_readFacet_c1 K t a Q := by
  obtain ⟨K, rfl⟩ : ∃ K', K = K' + 1 := ⟨K - 1, by omega⟩
  have h1 := hR.2.2
  show wbX8_readFacet_c1_0 (wpX8_readFacet_c1 K) K t (uI (fun _ => 0) 2 a) (fun _ => 0) Q
  unfold wbX8_readFacet_c1_0
  rw [hR.2.1]
  refine hz_at hR.1.1 h1.2 (by omega) (by omega) (fun v => hz_isLetter (by omega) ⟨fun _ => ⟨fun _ => ?_, fun _ => hz_fault (by omega) (fun v => hQ v p t hR)⟩, fun x => absurd x (by decide)⟩ ⟨fun x => absurd rfl x, fun _ => hz_fault (by omega) (fun v => hQ v p t hR)⟩)
  exact hz_rf_go hQ (y - p) p K t _ (by omega) (by omega) hR
theorem hz_read_go {y m : Nat} {lj : Nat → Int64} {Q : Int32 → XT → Prop} (hQ : ∀ r p t', hx_rd t' y m p → Q r t') :
    ∀ (d f p K : Nat) (t : XT) (li : Nat → Int32), f + d = 25 → d + 1000 ≤ K → hx_rd t y m p → li 2 = nI f → wpX8_read_c1 K 1 t li lj Q := by
  intro d
  induction d with
  | zero =>
    intro f p K t li hd hK hR e2
    obtain ⟨K, rfl⟩ : ∃ K', K = K' + 1 := ⟨K - 1, by omega⟩
    obtain rfl : f = 25 := by omega
    show wbX8_read_c1_1 (wpX8_read_c1 K) K t li lj Q
    exact ⟨fun _ => hz_fault (by omega) (fun v => hQ v p t hR), fun x => absurd (show nI 24 < li 2 by rw [e2]; exact nI_lt (by omega) (by omega)) x⟩
  | succ d ih =>
    intro f p K t li hd hK hR e2
    obtain ⟨K, rfl⟩ : ∃ K', K = K' + 1 := ⟨K - 1, by omega⟩
    show wbX8_read_c1_1 (wpX8_read_c1 K) K t li lj Q
    refine ⟨fun _ => hz_fault (by omega) (fun v => hQ v p t hR), fun _ => hz_skipBlanks hR (by omega) (fun p6 t6 h6 => hz_readFacet h6 (by omega) (fun r7 p7 t7 h7 => ⟨fun _ => hz_skipBlanks h7 (by omega) (fun p9 t9 h9 => ⟨fun ne => ?_, fun _ => hQ _ p9 t9 h9⟩), fun _ => hQ _ p7 t7 h7⟩))⟩
    have h := h9.2.2
    rw [h9.2.1, h9.1.1] at ne
    have lt : p9 < y := Nat.lt_of_le_of_ne h.1 (fun q => ne (congrArg nI q))
    rw [h9.2.1]
    refine hz_at h9.1.1 h.2 (by omega) (by omega) (fun v11 => ⟨fun _ v13 e13 t14 e14 v15 e15 => ?_, fun _ => hz_fault (by omega) (fun v => hQ v p9 t9 h9)⟩)
    exact ih (f + 1) (p9 + 1) K t14 _ (by omega) (by omega) (by rw [e14]; exact hx_rd_on h9 lt (e13.trans (by rw [h9.2.1]))) (by show v15 = _; rw [e15, e2]; exact hs_inc f)
theorem hz_read {t : XT} {y m K : Nat} {Q : Int32 → XT → Prop} (hI : hx_inv t (nI y) m) (hy : y ≤ 160) (hK : 1100 ≤ K) (hQ : ∀ r p t', hx_rd t' y m p → Q r t') : wqX8_read_c1 K t Q := by
  obtain ⟨K, rfl⟩ : ∃ K', K = K' + 1 := ⟨K - 1, by omega⟩
  show wbX8_read_c1_0 (wpX8_read_c1 K) K t (fun _ => 0) (fun _ => 0) Q
  intro t1 e1 t2 e2 t3 e3
  refine hz_read_go hQ 25 0 0 K t3 _ (by omega) (by omega) ?_ rfl
  subst e3 e2 e1
  exact ⟨hx_frame hI rfl rfl rfl rfl rfl rfl hI.2.2.2.2.2.2.2.1 rfl rfl, rfl, by omega, hy⟩
theorem hz_and255 {s : Nat} (hs : s < 256) (w : Int32) : ∃ j, j < 256 ∧ nI s &&& w = nI j := by
  have e : nI s &&& 255 = nI s := by
    rw [pk_andN (n := s) (by omega) (m := 255) 8 (by decide), Nat.mod_eq_of_lt (by omega)]
  have f : nI s &&& w = (nI s &&& w) &&& 255 := by
    rw [Int32.and_assoc, Int32.and_comm w, ← Int32.and_assoc, e]
  rw [f]
  exact pk_andE _ (m := 255) 8 (by decide)
theorem hz_add_go {z : Int32} {m s : Nat} {lj : Nat → Int64} {Q : XT → Prop} (hm : m < 60) (hs : s < 256) (hQ : ∀ t', hx_inv t' z (m + 1) → Q t') :
    ∀ (d l K : Nat) (t : XT) (li : Nat → Int32), l + d = 8 → 3 * d + 10 ≤ K → hx_inv t z m → li 1 = nI s → li 3 = nI l → wpX9_add K 1 t li lj Q := by
  intro d
  induction d with
  | zero =>
    intro l K t li hd hK hI e1 e3
    obtain ⟨K, rfl⟩ : ∃ K', K = K' + 1 := ⟨K - 1, by omega⟩
    obtain rfl : l = 8 := by omega
    show wbX9_add_1 (wpX9_add K) K t li lj Q
    refine ⟨fun _ v9 e9 t10 e10 => hQ t10 ?_, fun x => absurd (show nI 8 ≤ li 3 by rw [e3]; exact nI_le (by omega) (by omega)) x⟩
    obtain ⟨a1, a2, a3, a4, a5, a6, a7, a8, a9, a10, a11⟩ := hI
    have e9 : v9 = nI (m + 1) := by rw [e9, a2]; exact nI_1 m
    subst e10
    exact ⟨a1, e9, by omega, a4, a5, a6, a7, a8, a9, a10, a11⟩
  | succ d ih =>
    intro l K t li hd hK hI e1 e3
    obtain ⟨K, rfl⟩ : ∃ K', K = K' + 3 := ⟨K - 3, by omega⟩
    have three : ∀ (K2 : Nat) (t' : XT) (li' : Nat → Int32), K + 1 ≤ K2 → hx_inv t' z m → li' 1 = nI s → li' 3 = nI l → wpX9_add K2 3 t' li' lj Q := by
      intro K2 t' li' h hI' b1 b3
      obtain ⟨K2, rfl⟩ : ∃ K', K2 = K' + 1 := ⟨K2 - 1, by omega⟩
      show wbX9_add_3 (wpX9_add K2) K2 t' li' lj Q
      intro v e
      exact ih (l + 1) K2 t' _ (by omega) (by omega) hI' b1 (by show v = _; rw [e, b3]; exact hs_inc l)
    have hsz : vp_in (t.1 4) 64 := by rw [hI.2.1]; exact vp_in_nI (by omega) (by decide)
    have two : ∀ (li' : Nat → Int32), hx_p (li' 100) → li' 1 = nI s → li' 3 = nI l → wpX9_add (K + 2) 2 t li' lj Q := by
      intro li' hp b1 b3
      show wbX9_add_2 (wpX9_add (K + 1)) (K + 1) t li' lj Q
      refine ⟨fun _ => three _ t _ (by omega) hI b1 b3, fun ne => ?_⟩
      obtain ⟨f, hf, ef⟩ := hx_p_in hp ne
      have hin : vp_in (li' 100) 64 := by rw [ef]; exact vp_in_nI hf (by decide)
      refine ⟨hsz, fun v17 _ => hz_bit (by omega) (fun v18 v19 _ => ⟨hsz, fun t20 e20 => ⟨hin, fun v21 _ => hz_bit (by omega) (fun v22 v23 _ => ⟨hin, fun t24 e24 => ?_⟩)⟩⟩)⟩
      exact three _ t24 _ (by omega) (by rw [e24, e20]; exact hx_same hI rfl rfl) b1 b3
    show wbX9_add_1 (wpX9_add (K + 2)) (K + 2) t li lj Q
    unfold wbX9_add_1
    rw [e1, e3]
    refine ⟨fun x => ?_, fun _ v11 _ v12 _ v13 e13 => ⟨fun _ => two _ (Or.inl rfl) e1 e3, fun _ => ?_⟩⟩
    · exfalso
      have x : nI 8 ≤ nI l := x
      have := (nI_leI (a := 8) (b := l) (by omega) (by omega)).mp x
      omega
    · obtain ⟨j, hj, ej⟩ := hz_and255 hs v12
      rw [ej] at e13
      subst e13
      refine ⟨vp_in_nI hj (by decide), fun v15 e15 => two _ ?_ e1 e3⟩
      show hx_p v15
      rw [e15, nI_clamp (by omega)]
      exact hI.2.2.2.2.2.2.1 j hj
theorem hz_add {t : XT} {z : Int32} {m s d K : Nat} {Q : XT → Prop} (hI : hx_inv t z m) (hm : m < 60) (hs : s < 256) (hd : d < 5) (hK : 100 ≤ K) (hQ : ∀ t', hx_inv t' z (m + 1) → Q t') : wqX9_add K t (nI s) (nI d) Q := by
  obtain ⟨K, rfl⟩ : ∃ K', K = K' + 1 := ⟨K - 1, by omega⟩
  have e4 := hI.2.1
  have cm : (nI m).toNatClampNeg = m := nI_clamp (by omega)
  have cs : (nI s).toNatClampNeg = s := nI_clamp (by omega)
  have hmi := vp_in_nI (n := m) (N := 64) (by omega) (by decide)
  have hdi := vp_in_nI (n := d) (N := 5) hd (by decide)
  show wbX9_add_0 (wpX9_add K) K t (uI (uI (fun _ => 0) 1 (nI s)) 2 (nI d)) (fun _ => 0) Q
  refine ⟨by rw [e4]; exact hmi, fun t1 e1 => ?_⟩
  have e41 : t1.1 4 = nI m := by rw [e1]; exact e4
  refine ⟨by rw [e41]; exact hmi, fun t2 e2 => ⟨vp_in_nI (n := s) hs (by decide), fun t3 e3 => ⟨hdi, fun v4 _ => hz_bit (by omega) (fun v5 v6 _ => ⟨hdi, fun t7 e7 => ?_⟩)⟩⟩⟩
  have e42 : t2.1 4 = nI m := by rw [e2]; exact e41
  refine hz_add_go hm hs hQ 8 0 K t7 _ (by omega) (by omega) ?_ rfl rfl
  rw [e41, cm] at e2
  rw [e42] at e3
  have e3 : t3 = sA t2 4 (upd (t2.2.2.1 4) (nI s).toNatClampNeg (nI m)) := e3
  rw [cs] at e3
  have e2 : t2 = sA t1 3 (upd (t1.2.2.1 3) m (nI d)) := e2
  obtain ⟨a1, a2, a3, a4, a5, a6, a7, a8, a9, a10, a11⟩ := hI
  subst e7 e3 e2 e1
  refine ⟨a1, a2, a3, a4, a5, fun k hk => ?_, fun a ha => ?_, a8, a9, a10, a11⟩
  · show ∃ e, e < 5 ∧ upd (t.2.2.1 3) m (nI d) k = nI e
    by_cases x : k = m
    · exact ⟨d, hd, if_pos x⟩
    · obtain ⟨e, he, ee⟩ := a6 k hk
      exact ⟨e, he, (if_neg x).trans ee⟩
  · show hx_p (upd (t.2.2.1 4) s (nI m) a)
    by_cases x : a = s
    · rw [show upd (t.2.2.1 4) s (nI m) a = nI m from if_pos x]; exact Or.inr ⟨m, by omega, rfl⟩
    · rw [show upd (t.2.2.1 4) s (nI m) a = t.2.2.1 4 a from if_neg x]; exact a7 a ha
theorem hz_build_in {z : Int32} {d0 : Nat} {lj : Nat → Int64} {Q : XT → Prop} (hd0 : d0 < 5) (M : Nat) (hM : 200 ≤ M)
    (cont : ∀ (K' m : Nat) (t' : XT) (li' : Nat → Int32), M ≤ K' → hx_inv t' z m → li' 2 = nI d0 → wpX9_build_c13 K' 4 t' li' lj Q) :
    ∀ (d i m K : Nat) (t : XT) (li : Nat → Int32), i + d = 256 → 2 * d + M + 5 ≤ K → hx_inv t z m → li 2 = nI d0 → li 3 = nI i → wpX9_build_c13 K 2 t li lj Q := by
  intro d
  induction d with
  | zero =>
    intro i m K t li hd hK hI e2 e3
    obtain ⟨K, rfl⟩ : ∃ K', K = K' + 1 := ⟨K - 1, by omega⟩
    obtain rfl : i = 256 := by omega
    show wbX9_build_c13_2 (wpX9_build_c13 K) K t li lj Q
    exact ⟨fun _ => cont K m t li (by omega) hI e2, fun x => absurd (show nI 256 ≤ li 3 by rw [e3]; exact nI_le (by omega) (by omega)) x⟩
  | succ d ih =>
    intro i m K t li hd hK hI e2 e3
    obtain ⟨K, rfl⟩ : ∃ K', K = K' + 2 := ⟨K - 2, by omega⟩
    have nx : ∀ (m' : Nat) (t' : XT), hx_inv t' z m' → wpX9_build_c13 (K + 1) 3 t' li lj Q := by
      intro m' t' hI'
      show wbX9_build_c13_3 (wpX9_build_c13 K) K t' li lj Q
      intro v e
      exact ih (i + 1) m' K t' _ (by omega) (by omega) hI' e2 (by show v = _; rw [e, e3]; exact hs_inc i)
    have m60 := hI.2.2.1
    show wbX9_build_c13_2 (wpX9_build_c13 (K + 1)) (K + 1) t li lj Q
    unfold wbX9_build_c13_2
    rw [e2, e3, hI.2.1]
    have hin := vp_in_nI (n := i) (N := 256) (by omega) (by decide)
    refine ⟨fun _ => cont _ m t li (by omega) hI e2, fun _ => ⟨fun _ => cont _ m t li (by omega) hI e2, fun _ => ⟨hin, fun v9 _ => ⟨fun _ => nx m t hI, fun _ => hm_bitCount (by omega) (fun v12 _ => ⟨fun _ => nx m t hI, fun _ => ⟨fun _ => nx m t hI, fun lt => ?_⟩⟩)⟩⟩⟩⟩
    have lt : ¬ nI 60 ≤ nI m := lt
    have hm : m < 60 := Nat.lt_of_not_le (fun q => lt (nI_le q (by omega)))
    exact hz_add hI hm (by omega) hd0 (by omega) (fun t15 h15 => nx (m + 1) t15 h15)
theorem hz_build_go {z : Int32} {lj : Nat → Int64} {Q : XT → Prop} (hQ : ∀ m t', hx_inv t' z m → Q t') :
    ∀ (d i m K : Nat) (t : XT) (li : Nat → Int32), i + d = 5 → 700 * d + 300 ≤ K → hx_inv t z m → li 2 = nI i → wpX9_build_c13 K 1 t li lj Q := by
  intro d
  induction d with
  | zero =>
    intro i m K t li hd hK hI e2
    obtain ⟨K, rfl⟩ : ∃ K', K = K' + 1 := ⟨K - 1, by omega⟩
    obtain rfl : i = 5 := by omega
    show wbX9_build_c13_1 (wpX9_build_c13 K) K t li lj Q
    exact ⟨fun _ => hQ m t hI, fun x => absurd (show nI 5 ≤ li 2 by rw [e2]; exact nI_le (by omega) (by omega)) x⟩
  | succ d ih =>
    intro i m K t li hd hK hI e2
    obtain ⟨K, rfl⟩ : ∃ K', K = K' + 1 := ⟨K - 1, by omega⟩
    obtain ⟨M, hM⟩ : ∃ M, M = 700 * d + 301 := ⟨_, rfl⟩
    show wbX9_build_c13_1 (wpX9_build_c13 K) K t li lj Q
    refine ⟨fun _ => hQ m t hI, fun _ => ?_⟩
    refine hz_build_in (d0 := i) (by omega) M (by omega) (fun K' m' t' li' h hI' a2 => ?_) 255 1 m K t _ (by omega) (by omega) hI e2 rfl
    obtain ⟨K', rfl⟩ : ∃ K'', K' = K'' + 1 := ⟨K' - 1, by omega⟩
    show wbX9_build_c13_4 (wpX9_build_c13 K') K' t' li' lj Q
    intro v e
    exact ih (i + 1) m' K' t' _ (by omega) (by omega) hI' (by show v = _; rw [e, a2]; exact hs_inc i)
theorem hz_build {t : XT} {z : Int32} {m K : Nat} {Q : XT → Prop} (hI : hx_inv t z m) (hK : 4000 ≤ K) (hQ : ∀ m t', hx_inv t' z m → Q t') : wqX9_build_c13 K t Q := by
  obtain ⟨K, rfl⟩ : ∃ K', K = K' + 1 := ⟨K - 1, by omega⟩
  show wbX9_build_c13_0 (wpX9_build_c13 K) K t (fun _ => 0) (fun _ => 0) Q
  intro t1 e1 t2 e2 t3 e3 t4 e4 t5 e5
  refine hz_build_go hQ 5 0 0 K t5 _ (by omega) (by omega) ?_ rfl
  obtain ⟨a1, a2, a3, a4, a5, a6, a7, a8, a9, a10, a11⟩ := hI
  subst e5 e4 e3 e2 e1
  exact ⟨a1, rfl, by omega, a4, a5, a6, fun _ _ => Or.inl rfl, a8, a9, a10, a11⟩
theorem hz_all {t : XT} {K : Nat} {Q : Int64 → XT → Prop} (hK : 2 ≤ K) (h : ∀ v, Q v t) : wqX9_all K t Q := by
  obtain ⟨K, rfl⟩ : ∃ K', K = K' + 1 := ⟨K - 1, by omega⟩
  show wbX9_all_0 (wpX9_all K) K t (fun _ => 0) (fun _ => 0) Q
  exact hz_bit (by omega) (fun v v2 _ => h v2)
theorem hz_complex {t : XT} {y m K : Nat} {Q : Int32 → XT → Prop} (hI : hx_inv t (nI y) m) (hy : y ≤ 160) (hK : 5000 ≤ K) (hQ : ∀ r m' t', hx_inv t' (nI 0) m' → Q r t') : wqX11_complex K t Q := by
  obtain ⟨K, rfl⟩ : ∃ K', K = K' + 1 := ⟨K - 1, by omega⟩
  show wbX11_complex_0 (wpX11_complex K) K t (fun _ => 0) (fun _ => 0) Q
  refine hz_read hI hy (by omega) (fun r1 p1 t1 h1 t2 e2 => ?_)
  have h2 : hx_inv t2 (nI 0) m := by
    obtain ⟨a1, a2, a3, a4, a5, a6, a7, a8, a9, a10, a11⟩ := h1.1
    subst e2
    exact ⟨rfl, a2, a3, a4, a5, a6, a7, a8, a9, a10, a11⟩
  refine ⟨fun _ => hz_build h2 (by omega) (fun m4 t4 h4 => ?_), fun _ v9 _ => hQ v9 m t2 h2⟩
  refine hz_all (by omega) (fun v => hz_restart h4 (by omega) (fun t6 h6 t7 e7 => ?_))
  obtain ⟨K, rfl⟩ : ∃ K', K = K' + 1 := ⟨K - 1, by omega⟩
  intro t8 e8
  refine hQ _ m4 t8 ?_
  subst e8 e7
  exact hx_frame h6 rfl rfl rfl rfl rfl rfl h6.2.2.2.2.2.2.2.1 rfl rfl
