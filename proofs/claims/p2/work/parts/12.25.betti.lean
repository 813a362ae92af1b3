/-! ===== reference, pure: betti, torsion, slack, levelBetti, over the one open point: hq_point (rankOf ends, and answers a number up to 60) ===== -/
/-- what rankOf leaves alone -/
def hq_kp (t : XT) : (Int32 × Int32 × Int32 × Int32) × (Nat → Int32) × (Nat → Int32) × (Nat → Int32) × (Nat → Int32) × (Nat → Int32) × (Nat → Int32) := ((t.1 0, t.1 3, t.1 4, t.1 8), t.2.2.1 2, t.2.2.1 3, t.2.2.1 4, t.2.2.1 5, t.2.2.1 8, t.2.2.1 11)
/-- THE OPEN POINT: rankOf ends from every state that calls lead to (K0: fuel enough for all of them) -/
def hq_point (K0 : Nat) : Prop := ∀ (t : XT) (m n K : Nat) (d w : Int32) (Q : Int32 → XT → Prop), hq_inv t m n → hq_geo t m → (¬ w = 0 → ∀ k, k < m → (t.2.2.1 11 k ≠ 0 ↔ hm_crit t k)) → K0 ≤ K → (∀ r t', r ≤ 60 → hq_kp t' = hq_kp t → Q (nI r) t') → wqX12_rankOf K t d w Q
theorem hq_kp_inv {t t' : XT} {m n : Nat} (h : hq_kp t' = hq_kp t) (hI : hq_inv t m n) : hq_inv t' m n := by
  have a := congrArg (fun q => q.1.2.1) h
  have b := congrArg (fun q => q.1.2.2.1) h
  have c := congrArg (fun q => q.2.1) h
  have d := congrArg (fun q => q.2.2.2.1) h
  have e := congrArg (fun q => q.2.2.2.2.1) h
  have f := congrArg (fun q => q.2.2.2.2.2.1) h
  exact hq_frame a b c d f e hI
theorem hq_kp_key {t t' : XT} (h : hq_kp t' = hq_kp t) : hq_key t' = hq_key t := by
  have a : t'.1 0 = t.1 0 := congrArg (fun q => q.1.1) h
  have b : t'.1 8 = t.1 8 := congrArg (fun q => q.1.2.2.2) h
  have c : t'.2.2.1 2 = t.2.2.1 2 := congrArg (fun q => q.2.1) h
  have d : t'.2.2.1 3 = t.2.2.1 3 := congrArg (fun q => q.2.2.1) h
  show (t'.1 0, t'.1 8, t'.2.2.1 2, t'.2.2.1 3) = (t.1 0, t.1 8, t.2.2.1 2, t.2.2.1 3)
  rw [a, b, c, d]
theorem hq_geo_rows {t t' : XT} {m : Nat} (h2 : t'.2.2.1 2 = t.2.2.1 2) (h3 : t'.2.2.1 3 = t.2.2.1 3) (hg : hq_geo t m) : hq_geo t' m := by
  have l : ∀ k, hm_let t' k = hm_let t k := fun k => congrFun h2 k
  obtain ⟨a, b, c⟩ := hg
  refine ⟨fun k hk => ?_, fun x hx hm => ?_, fun k x y hk hx e hy hxy => ?_⟩
  · rw [l k]; exact a k hk
  · rw [h3]
    rcases b x hx hm with z | ⟨k, k1, k2, k3⟩
    · exact Or.inl z
    · exact Or.inr ⟨k, k1, k2, (l k).trans k3⟩
  · rw [l k] at e
    obtain ⟨j, j1, j2, j3⟩ := c k x y hk hx e hy hxy
    exact ⟨j, j1, by rw [h3]; exact j2, (l j).trans j3⟩
theorem hq_geo_key {t t' : XT} {m : Nat} (h : hq_key t' = hq_key t) (hg : hq_geo t m) : hq_geo t' m :=
  hq_geo_rows (congrArg (fun q => q.2.2.1) h) (congrArg (fun q => q.2.2.2) h) hg
theorem hq_kp_crit {t t' : XT} {m : Nat} (h : hq_kp t' = hq_kp t) (hc : ∀ k, k < m → (t.2.2.1 11 k ≠ 0 ↔ hm_crit t k)) : ∀ k, k < m → (t'.2.2.1 11 k ≠ 0 ↔ hm_crit t' k) := by
  have d : t'.2.2.1 4 = t.2.2.1 4 := congrArg (fun q => q.2.2.2.1) h
  have e : t'.2.2.1 5 = t.2.2.1 5 := congrArg (fun q => q.2.2.2.2.1) h
  have f : t'.2.2.1 11 = t.2.2.1 11 := congrArg (fun q => q.2.2.2.2.2.2) h
  intro k hk
  unfold hm_crit hm_gone hm_par
  rw [d, e, f]
  exact hc k hk
theorem hq_takes2_go {t : XT} {m : Nat} {a : Int32} {lj : Nat → Int64} {Q : XT → Prop} (hm : t.1 3 = nI m) (hm60 : m ≤ 60) (hQ : ∀ G, (¬ a = 0 → ∀ k, k < m → (G k ≠ 0 ↔ hm_crit t k)) → Q (sA t 11 G)) :
    ∀ (d c K : Nat) (li : Nat → Int32) (G : Nat → Int32), c + d = m → 2 * d + 10 ≤ K → li 1 = a → li 2 = nI c → (¬ a = 0 → ∀ k, k < c → (G k ≠ 0 ↔ hm_crit t k)) → wpX12_takes K 1 (sA t 11 G) li lj Q := by
  intro d
  induction d with
  | zero =>
    intro c K li G hd hK e1 e2 hG
    obtain ⟨K, rfl⟩ : ∃ K', K = K' + 1 := ⟨K - 1, by omega⟩
    obtain rfl : c = m := by omega
    show wbX12_takes_1 (wpX12_takes K) K (sA t 11 G) li lj Q
    refine ⟨fun _ => hQ G hG, fun x => absurd ?_ x⟩
    show t.1 3 ≤ li 2
    rw [hm, e2]; exact nI_le (by omega) (by omega)
  | succ d ih =>
    intro c K li G hd hK e1 e2 hG
    obtain ⟨K, rfl⟩ : ∃ K', K = K' + 2 := ⟨K - 2, by omega⟩
    have cc : (nI c).toNatClampNeg = c := nI_clamp (by omega)
    have nx : ∀ b : Int32, (¬ a = 0 → (vp_nar .boolean b ≠ 0 ↔ hm_crit t c)) → wpX12_takes (K + 1) 2 (sA t 11 G) (uI (uI li 102 b) 101 (nI c)) lj Q := by
      intro b hb
      show wbX12_takes_2 (wpX12_takes K) K (sA t 11 G) (uI (uI li 102 b) 101 (nI c)) lj Q
      refine ⟨vp_in_nI (n := c) (by omega) (by decide), fun t6 e6 v7 e7 => ?_⟩
      rw [hm_sAA] at e6
      have e6 : t6 = sA t 11 (upd G (nI c).toNatClampNeg (vp_nar .boolean b)) := e6
      rw [cc] at e6
      rw [e6]
      refine ih (c + 1) K _ _ (by omega) (by omega) e1 (by show v7 = _; rw [e7]; exact (congrArg (· + Int32.ofInt 1) e2).trans (hs_inc c)) (fun na k hk => ?_)
      by_cases x : k = c
      · rw [x, show upd G c (vp_nar .boolean b) c = vp_nar .boolean b from if_pos rfl]; exact hb na
      · rw [show upd G c (vp_nar .boolean b) k = G k from if_neg x]; exact hG na k (by omega)
    show wbX12_takes_1 (wpX12_takes (K + 1)) (K + 1) (sA t 11 G) li lj Q
    unfold wbX12_takes_1
    rw [e1, e2]
    refine ⟨fun x => absurd (show t.1 3 ≤ nI c from x) (by rw [hm]; exact nI_ge (by omega) (by omega)), fun _ => ⟨fun _ => ?_, fun a0 => ?_⟩⟩
    · refine hm_isCritical (t := sA t 11 G) (a := nI c) hm hm60 (by omega) (fun j hj ej cr => nx 1 (fun _ => ⟨fun _ => ?_, fun _ => by decide⟩)) (fun no => nx 0 (fun _ => ⟨fun z => absurd rfl z, fun cr => absurd cr (no c (by omega) rfl)⟩))
      have e := (nI_eq (by omega) (by omega)).mp ej
      rw [e]; exact cr
    · exact ⟨vp_in_nI (by omega) (by decide), fun v4 _ => ⟨fun _ => nx 0 (fun z => absurd a0 z), fun _ => nx 1 (fun z => absurd a0 z)⟩⟩
theorem hq_takes2 {t : XT} {m K : Nat} {a : Int32} {Q : XT → Prop} (hm : t.1 3 = nI m) (hm60 : m ≤ 60) (hK : 200 ≤ K) (hQ : ∀ G, (¬ a = 0 → ∀ k, k < m → (G k ≠ 0 ↔ hm_crit t k)) → Q (sA t 11 G)) : wqX12_takes K t a Q := by
  obtain ⟨K, rfl⟩ : ∃ K', K = K' + 1 := ⟨K - 1, by omega⟩
  have g := hq_takes2_go (lj := fun _ => 0) hm hm60 hQ m 0 K (uI (uI (fun _ => 0) 1 a) 2 0) (t.2.2.1 11) (by omega) (by omega) rfl rfl (fun _ k hk => absurd hk (by omega))
  rw [hm_sA0] at g
  exact g
theorem hq_bettiTaken {K0 : Nat} (P : hq_point K0) {t : XT} {m n K : Nat} {d w : Int32} {Q : Int32 → XT → Prop} (hI : hq_inv t m n) (hg : hq_geo t m) (hc : ¬ w = 0 → ∀ k, k < m → (t.2.2.1 11 k ≠ 0 ↔ hm_crit t k)) (hK : K0 + 201 ≤ K) (hQ : ∀ r t', hq_kp t' = hq_kp t → Q r t') : wqX12_bettiTaken K t d w Q := by
  obtain ⟨K, rfl⟩ : ∃ K', K = K' + 1 := ⟨K - 1, by omega⟩
  show wbX12_bettiTaken_0 (wpX12_bettiTaken K) K t (uI (uI (fun _ => 0) 1 d) 2 w) (fun _ => 0) Q
  refine hm_takenOf hI.1 hI.2.1 (by omega) ?_
  refine P t m n K d w _ hI hg hc (by omega) (fun r t' _ h v3 _ v4 _ => ?_)
  refine P t' m n K v4 w _ (hq_kp_inv h hI) (hq_geo_key (hq_kp_key h) hg) (fun nw => hq_kp_crit h (hc nw)) (by omega) (fun r2 t2 _ h2 v6 _ => ?_)
  exact hQ v6 t2 (h2.trans h)
theorem hq_betti {K0 : Nat} (P : hq_point K0) {t : XT} {m n K : Nat} {a b : Int32} {Q : Int32 → XT → Prop} (hI : hq_inv t m n) (hg : hq_geo t m) (hK : K0 + 300 ≤ K) (hQ : ∀ r t', hq_key t' = hq_key t → hq_inv t' m n → Q r t') : wqX12_betti K t a b Q := by
  obtain ⟨K, rfl⟩ : ∃ K', K = K' + 1 := ⟨K - 1, by omega⟩
  have out : wpX12_betti K 1 t (uI (uI (fun _ => 0) 1 a) 2 b) (fun _ => 0) Q := by
    obtain ⟨K, rfl⟩ : ∃ K', K = K' + 1 := ⟨K - 1, by omega⟩
    exact hQ (-1) t rfl hI
  show wbX12_betti_0 (wpX12_betti K) K t (uI (uI (fun _ => 0) 1 a) 2 b) (fun _ => 0) Q
  refine hm_in (by omega) ⟨fun _ => out, fun _ => hm_in (by omega) ⟨fun _ => ?_, fun _ => out⟩⟩
  refine hq_takes2 hI.1 hI.2.1 (by omega) (fun G hG => ?_)
  have hI1 : hq_inv (sA t 11 G) m n := hq_frame (t := t) rfl rfl rfl rfl rfl rfl hI
  have hg1 : hq_geo (sA t 11 G) m := hg
  refine hq_bettiTaken P hI1 hg1 hG (by omega) (fun r t' h => ?_)
  exact hQ r t' (show hq_key t' = hq_key (sA t 11 G) from hq_kp_key h) (hq_kp_inv h hI1)
theorem hq_tor_go {t : XT} {r0 : Nat} {lj : Nat → Int64} {Q : Int64 → XT → Prop} (hr : r0 ≤ 60) (hQ : ∀ v, Q v t) :
    ∀ (d i K : Nat) (li : Nat → Int32), i + d = r0 → 2 * d + 2 ≤ K → li 4 = nI r0 → li 6 = nI i → wpX12_torsion K 2 t li lj Q := by
  intro d
  induction d with
  | zero =>
    intro i K li hd hK e4 e6
    obtain ⟨K, rfl⟩ : ∃ K', K = K' + 1 := ⟨K - 1, by omega⟩
    show wbX12_torsion_2 (wpX12_torsion K) K t li lj Q
    exact ⟨fun _ => ⟨fun _ => hQ _, fun _ v _ => hQ v⟩, fun x => absurd (show li 4 ≤ li 6 by rw [e4, e6]; exact nI_le (by omega) (by omega)) x⟩
  | succ d ih =>
    intro i K li hd hK e4 e6
    obtain ⟨K, rfl⟩ : ∃ K', K = K' + 2 := ⟨K - 2, by omega⟩
    have nx : ∀ li' : Nat → Int32, li' 4 = nI r0 → li' 6 = nI i → wpX12_torsion (K + 1) 3 t li' lj Q := by
      intro li' a4 a6
      show wbX12_torsion_3 (wpX12_torsion K) K t li' lj Q
      intro v e
      exact ih (i + 1) K _ (by omega) (by omega) a4 (by show v = _; rw [e, a6]; exact hs_inc i)
    show wbX12_torsion_2 (wpX12_torsion (K + 1)) (K + 1) t li lj Q
    have hin : vp_in (li 6) 60 := by rw [e6]; exact vp_in_nI (by omega) (by decide)
    exact ⟨fun _ => ⟨fun _ => hQ _, fun _ v _ => hQ v⟩, fun _ => ⟨hin, fun v12 _ v13 _ => ⟨fun _ => nx li e4 e6, fun _ => ⟨fun _ v16 _ => nx _ e4 e6, fun _ => ⟨hin, fun v17 _ => hQ v17⟩⟩⟩⟩⟩
theorem hq_torsion {K0 : Nat} (P : hq_point K0) {t : XT} {m n K : Nat} {a b c : Int32} {Q : Int64 → XT → Prop} (hI : hq_inv t m n) (hg : hq_geo t m) (hK : K0 + 400 ≤ K) (hQ : ∀ r t', hq_key t' = hq_key t → hq_inv t' m n → Q r t') : wqX12_torsion K t a b c Q := by
  obtain ⟨K, rfl⟩ : ∃ K', K = K' + 1 := ⟨K - 1, by omega⟩
  have out : wpX12_torsion K 1 t (uI (uI (uI (fun _ => 0) 1 a) 2 b) 3 c) (fun _ => 0) Q := by
    obtain ⟨K, rfl⟩ : ∃ K', K = K' + 1 := ⟨K - 1, by omega⟩
    exact hQ (-1) t rfl hI
  show wbX12_torsion_0 (wpX12_torsion K) K t (uI (uI (uI (fun _ => 0) 1 a) 2 b) 3 c) (fun _ => 0) Q
  refine hm_in (by omega) ⟨fun _ => out, fun _ => hm_in (by omega) ⟨fun _ => out, fun _ => ⟨fun _ => ?_, fun _ => out⟩⟩⟩
  refine hq_takes2 hI.1 hI.2.1 (by omega) (fun G hG v7 _ => ?_)
  have hI1 : hq_inv (sA t 11 G) m n := hq_frame (t := t) rfl rfl rfl rfl rfl rfl hI
  have hg1 : hq_geo (sA t 11 G) m := hg
  refine P (sA t 11 G) m n K v7 c _ hI1 hg1 hG (by omega) (fun r t' hr h => ?_)
  exact hq_tor_go hr (fun v => hQ v t' (show hq_key t' = hq_key (sA t 11 G) from hq_kp_key h) (hq_kp_inv h hI1)) r 0 K _ (by omega) (by omega) rfl rfl
theorem hq_slack_go {K0 : Nat} (P : hq_point K0) {m n : Nat} {a1 : Int32} {lj : Nat → Int64} {z : Int32 × Int32 × (Nat → Int32) × (Nat → Int32)} {Q : Int32 → XT → Prop} {M : Nat} (hM : M ≤ 4) (ea : a1 = nI M) (hQ : ∀ r t', hq_key t' = z → hq_inv t' m n → Q r t') :
    ∀ (d i K : Nat) (t : XT) (li : Nat → Int32), i + d = M + 1 → d + K0 + 400 ≤ K → hq_inv t m n → hq_geo t m → hq_key t = z → li 1 = a1 → li 3 = nI i → wpX12_slack K 1 t li lj Q := by
  intro d
  induction d with
  | zero =>
    intro i K t li hd hK hI hg ez e1 e3
    obtain ⟨K, rfl⟩ : ∃ K', K = K' + 1 := ⟨K - 1, by omega⟩
    show wbX12_slack_1 (wpX12_slack K) K t li lj Q
    exact ⟨fun _ => hQ _ t ez hI, fun x => absurd (show li 1 < li 3 by rw [e1, ea, e3]; exact nI_lt (by omega) (by omega)) x⟩
  | succ d ih =>
    intro i K t li hd hK hI hg ez e1 e3
    obtain ⟨K, rfl⟩ : ∃ K', K = K' + 1 := ⟨K - 1, by omega⟩
    show wbX12_slack_1 (wpX12_slack K) K t li lj Q
    refine ⟨fun _ => hQ _ t ez hI, fun _ => hq_critical hI.1 hI.2.1 (by omega) (fun r4 => ?_)⟩
    refine hq_betti P hI hg (by omega) (fun r5 t5 hk hI5 v6 _ v7 _ v8 e8 => ?_)
    exact ih (i + 1) K t5 _ (by omega) (by omega) hI5 (hq_geo_key hk hg) (hk.trans ez) e1 (by show v8 = _; rw [e8, e3]; exact hs_inc i)
theorem hq_slack {K0 : Nat} (P : hq_point K0) {t : XT} {m n K : Nat} {a : Int32} {Q : Int32 → XT → Prop} (hI : hq_inv t m n) (hg : hq_geo t m) (hK : K0 + 500 ≤ K) (hQ : ∀ r t', hq_key t' = hq_key t → hq_inv t' m n → Q r t') : wqX12_slack K t a Q := by
  obtain ⟨K, rfl⟩ : ∃ K', K = K' + 1 := ⟨K - 1, by omega⟩
  show wbX12_slack_0 (wpX12_slack K) K t (uI (fun _ => 0) 1 a) (fun _ => 0) Q
  refine hm_in (v := a) (lo := 0) (hi := 4) (by omega) ?_
  by_cases ca : (0 : Int32) ≤ a ∧ a ≤ 4
  · rw [if_pos ca]
    refine ⟨fun _ => ?_, fun x => absurd x (by decide)⟩
    obtain ⟨M, _, hM, ea⟩ := hq_between (lo := 0) (hi := 4) (by omega) (by omega) ca
    exact hq_slack_go P hM ea hQ (M + 1) 0 K t _ (by omega) (by omega) hI hg rfl rfl rfl
  · rw [if_neg ca]
    exact ⟨fun x => absurd rfl x, fun _ => hQ _ t rfl hI⟩
theorem hq_lb_in {t : XT} {m i : Nat} {lj : Nat → Int64} {Q : Int32 → XT → Prop} (hm : t.1 3 = nI m) (hm60 : m ≤ 60) (hi : i < m) (M : Nat) (hM : 20 ≤ M)
    (cont : ∀ (K' : Nat) (G li' : Nat → Int32) (b2 : Int32), M ≤ K' → li' 3 = nI (i + 1) → wpX12_levelBetti K' 2 (sA t 11 G) li' lj Q) :
    ∀ (d j K : Nat) (G li : Nat → Int32), j + d = m → 5 * d + M + 1 ≤ K → li 3 = nI i → li 4 = nI j → wpX12_levelBetti K 3 (sA t 11 G) li lj Q := by
  intro d
  induction d with
  | zero =>
    intro j K G li hd hK e3 e4
    obtain ⟨K, rfl⟩ : ∃ K', K = K' + 1 := ⟨K - 1, by omega⟩
    show wbX12_levelBetti_3 (wpX12_levelBetti K) K (sA t 11 G) li lj Q
    refine ⟨fun _ v9 e9 => cont K G _ 0 (by omega) (by show v9 = _; rw [e9, e3]; exact hs_inc i), fun x => absurd (show t.1 3 ≤ li 4 by rw [hm, e4]; exact nI_le (by omega) (by omega)) x⟩
  | succ d ih =>
    intro j K G li hd hK e3 e4
    obtain ⟨K, rfl⟩ : ∃ K', K = K' + 5 := ⟨K - 5, by omega⟩
    have eight : ∀ (K2 : Nat) (li' : Nat → Int32), K + 1 ≤ K2 → li' 3 = nI i → li' 4 = nI j → li' 101 = nI i → wpX12_levelBetti K2 8 (sA t 11 G) li' lj Q := by
      intro K2 li' h a3 a4 a101
      obtain ⟨K2, rfl⟩ : ∃ K', K2 = K' + 1 := ⟨K2 - 1, by omega⟩
      show wbX12_levelBetti_8 (wpX12_levelBetti K2) K2 (sA t 11 G) li' lj Q
      unfold wbX12_levelBetti_8
      rw [a101]
      refine ⟨vp_in_nI (by omega) (by decide), fun t24 e24 v25 e25 => ?_⟩
      rw [hm_sAA] at e24
      rw [e24]
      exact ih (j + 1) K2 _ _ (by omega) (by omega) a3 (by show v25 = _; rw [e25, a4]; exact hs_inc j)
    have six : ∀ (K2 : Nat) (li' : Nat → Int32), K + 2 ≤ K2 → li' 3 = nI i → li' 4 = nI j → li' 101 = nI i → wpX12_levelBetti K2 6 (sA t 11 G) li' lj Q := by
      intro K2 li' h a3 a4 a101
      obtain ⟨K2, rfl⟩ : ∃ K', K2 = K' + 1 := ⟨K2 - 1, by omega⟩
      exact eight K2 _ (by omega) a3 a4 a101
    have seven : ∀ (K2 : Nat) (li' : Nat → Int32), K + 2 ≤ K2 → li' 3 = nI i → li' 4 = nI j → li' 101 = nI i → wpX12_levelBetti K2 7 (sA t 11 G) li' lj Q := by
      intro K2 li' h a3 a4 a101
      obtain ⟨K2, rfl⟩ : ∃ K', K2 = K' + 1 := ⟨K2 - 1, by omega⟩
      exact eight K2 _ (by omega) a3 a4 a101
    have five : ∀ (K2 : Nat) (li' : Nat → Int32), K + 3 ≤ K2 → 15 ≤ K2 → li' 3 = nI i → li' 4 = nI j → wpX12_levelBetti K2 5 (sA t 11 G) li' lj Q := by
      intro K2 li' h h15 a3 a4
      obtain ⟨K2, rfl⟩ : ∃ K', K2 = K' + 1 := ⟨K2 - 1, by omega⟩
      show wbX12_levelBetti_5 (wpX12_levelBetti K2) K2 (sA t 11 G) li' lj Q
      refine ⟨by rw [a3]; exact vp_in_nI (by omega) (by decide), fun v19 _ => ⟨fun _ => six K2 _ (by omega) a3 a4 a3, fun _ => ⟨fun _ => seven K2 _ (by omega) a3 a4 a3, fun _ => ?_⟩⟩⟩
      exact hm_isThere (t := sA t 11 G) (a := li' 3) hm hm60 (by omega) (fun _ _ _ _ => ⟨fun x => absurd x (by decide), fun _ => six K2 _ (by omega) a3 a4 a3⟩) (fun _ => ⟨fun _ => seven K2 _ (by omega) a3 a4 a3, fun x => absurd rfl x⟩)
    have four : wpX12_levelBetti (K + 4) 4 (sA t 11 G) li lj Q := five (K + 3) (uI li 100 0) (by omega) (by omega) e3 e4
    show wbX12_levelBetti_3 (wpX12_levelBetti (K + 4)) (K + 4) (sA t 11 G) li lj Q
    unfold wbX12_levelBetti_3
    rw [e3, e4]
    refine ⟨fun x => absurd (show t.1 3 ≤ nI j from x) (by rw [hm]; exact nI_ge (by omega) (by omega)), fun _ => ?_⟩
    refine hm_isThere (t := sA t 11 G) (a := nI j) hm hm60 (by omega) (fun _ _ _ _ => ⟨fun x => absurd x (by decide), fun _ => ?_⟩) (fun _ => ⟨fun _ => four, fun x => absurd rfl x⟩)
    exact ⟨vp_in_nI (by omega) (by decide), fun v12 _ => ⟨fun _ => four, fun _ => ⟨vp_in_nI (by omega) (by decide), fun v14 _ => ⟨vp_in_nI (by omega) (by decide), fun v15 _ v16 _ v17 _ => ⟨fun _ => four, fun _ => five (K + 4) (uI li 100 1) (by omega) (by omega) e3 e4⟩⟩⟩⟩⟩
theorem hq_lb_out {K0 : Nat} (P : hq_point K0) {t : XT} {m n : Nat} {lj : Nat → Int64} {Q : Int32 → XT → Prop} (hI : hq_inv t m n) (hg : hq_geo t m) (hQ : ∀ r t', hq_key t' = hq_key t → hq_inv t' m n → Q r t') :
    ∀ (d i K : Nat) (G li : Nat → Int32), i + d = m → 400 * d + K0 + 400 ≤ K → li 3 = nI i → wpX12_levelBetti K 2 (sA t 11 G) li lj Q := by
  have hm := hI.1
  have hm60 := hI.2.1
  intro d
  induction d with
  | zero =>
    intro i K G li hd hK e3
    obtain ⟨K, rfl⟩ : ∃ K', K = K' + 1 := ⟨K - 1, by omega⟩
    have hI1 : hq_inv (sA t 11 G) m n := hq_frame (t := t) rfl rfl rfl rfl rfl rfl hI
    have hg1 : hq_geo (sA t 11 G) m := hg
    show wbX12_levelBetti_2 (wpX12_levelBetti K) K (sA t 11 G) li lj Q
    refine ⟨fun _ => hq_bettiTaken P hI1 hg1 (fun nw => absurd rfl nw) (by omega) (fun r t' h => hQ r t' (show hq_key t' = hq_key (sA t 11 G) from hq_kp_key h) (hq_kp_inv h hI1)), fun x => absurd (show t.1 3 ≤ li 3 by rw [hm, e3]; exact nI_le (by omega) (by omega)) x⟩
  | succ d ih =>
    intro i K G li hd hK e3
    obtain ⟨K, rfl⟩ : ∃ K', K = K' + 1 := ⟨K - 1, by omega⟩
    show wbX12_levelBetti_2 (wpX12_levelBetti K) K (sA t 11 G) li lj Q
    unfold wbX12_levelBetti_2
    rw [e3]
    refine ⟨fun x => absurd (show t.1 3 ≤ nI i from x) (by rw [hm]; exact nI_ge (by omega) (by omega)), fun _ => ⟨vp_in_nI (by omega) (by decide), fun t7 e7 => ?_⟩⟩
    rw [hm_sAA] at e7
    rw [e7]
    obtain ⟨M, hM⟩ : ∃ M, M = 400 * d + K0 + 400 := ⟨_, rfl⟩
    exact hq_lb_in hm hm60 (by omega) M (by omega) (fun K' G' li' _ h1 a3 => ih (i + 1) K' G' li' (by omega) (by omega) a3) m 0 K _ _ (by omega) (by omega) e3 rfl
theorem hq_levelBetti {K0 : Nat} (P : hq_point K0) {t : XT} {m n K : Nat} {a b : Int32} {Q : Int32 → XT → Prop} (hI : hq_inv t m n) (hg : hq_geo t m) (hK : K0 + 30000 ≤ K) (hK2 : 10000000000001 ≤ K) (hQ : ∀ r t', hq_key t' = hq_key t → hq_inv t' m n → Q r t') : wqX12_levelBetti K t a b Q := by
  obtain ⟨K, rfl⟩ : ∃ K', K = K' + 1 := ⟨K - 1, by omega⟩
  have hm60 := hI.2.1
  have out : wpX12_levelBetti K 1 t (uI (uI (fun _ => 0) 1 a) 2 b) (fun _ => 0) Q := by
    obtain ⟨K, rfl⟩ : ∃ K', K = K' + 1 := ⟨K - 1, by omega⟩
    exact hQ (-1) t rfl hI
  show wbX12_levelBetti_0 (wpX12_levelBetti K) K t (uI (uI (fun _ => 0) 1 a) 2 b) (fun _ => 0) Q
  refine ⟨fun _ => out, fun _ => hm_in (by omega) ⟨fun _ => ?_, fun _ => out⟩⟩
  refine hq_heights hI (by omega) (fun f => ?_)
  have hI1 : hq_inv (sA t 6 f) m n := hq_frame (t := t) rfl rfl rfl rfl rfl rfl hI
  have hg1 : hq_geo (sA t 6 f) m := hg
  have g := hq_lb_out P (t := sA t 6 f) (lj := fun _ => 0) (Q := Q) hI1 hg1 (fun r t' h h' => hQ r t' h h') m 0 K ((sA t 6 f).2.2.1 11) (uI (uI (uI (fun _ => 0) 1 a) 2 b) 3 0) (by omega) (by omega) rfl
  rw [hm_sA0] at g
  exact g
