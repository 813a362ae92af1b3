/-! ===== the class: complex lays its SHAPE, all other calls keep it ===== -/
theorem hc_add {t : XT} {z : Int32} {m s d K : Nat} {Q : XT → Prop} (hI : hx_inv t z m) (hB : hc_b t m) (hm : m < 60) (hs : s < 256) (hd : d < 5) (hsd : nb 8 s = d + 1) (hK : 100 ≤ K) (hQ : ∀ t', hx_inv t' z (m + 1) → hc_b t' (m + 1) → t'.2.2.1 1 = t.2.2.1 1 → t'.2.2.1 3 = upd (t.2.2.1 3) m (nI d) → Q t') : wqX9_add K t (nI s) (nI d) Q := by
  obtain ⟨K, rfl⟩ : ∃ K', K = K' + 1 := ⟨K - 1, by omega⟩
  have e4 := hI.2.1
  have cm : (nI m).toNatClampNeg = m := nI_clamp (by omega)
  have cs : (nI s).toNatClampNeg = s := nI_clamp (by omega)
  have cd : (nI d).toNatClampNeg = d := nI_clamp (by omega)
  have hmi := vp_in_nI (n := m) (N := 64) (by omega) (by decide)
  have hdi := vp_in_nI (n := d) (N := 5) hd (by decide)
  obtain ⟨bA, bO, bZ, bN⟩ := hB
  show wbX9_add_0 (wpX9_add K) K t (uI (uI (fun _ => 0) 1 (nI s)) 2 (nI d)) (fun _ => 0) Q
  refine ⟨by rw [e4]; exact hmi, fun t1 e1 => ?_⟩
  have e41 : t1.1 4 = nI m := by rw [e1]; exact e4
  refine ⟨by rw [e41]; exact hmi, fun t2 e2 => ⟨vp_in_nI (n := s) hs (by decide), fun t3 e3 => ⟨hdi, fun v4 f4 => ?_⟩⟩⟩
  have e42 : t2.1 4 = nI m := by rw [e2]; exact e41
  have e43 : t3.1 4 = nI m := by rw [e3]; exact e42
  rw [e43]
  refine hw_bit (k := m) (by omega) (by omega) (fun v5 f5 v6 f6 => ⟨hdi, fun t7 e7 => ?_⟩)
  rw [e4, cm] at e1
  rw [e41, cm] at e2
  rw [e42] at e3
  have e3 : t3 = sA t2 4 (upd (t2.2.2.1 4) (nI s).toNatClampNeg (nI m)) := e3
  rw [cs] at e3
  have e2 : t2 = sA t1 3 (upd (t1.2.2.1 3) m (nI d)) := e2
  have e1 : t1 = sA t 2 (upd (t.2.2.1 2) m (nI s)) := e1
  have e7 : t7 = sB t3 2 (vp_updL (t3.2.2.2 2) (nI d).toNatClampNeg v6) := e7
  have f4 : v4 = t3.2.2.2 2 (nI d).toNatClampNeg := f4
  rw [cd] at e7 f4
  subst e7 e3 e2 e1
  have k2 : ∀ k, k ≠ m → upd (t.2.2.1 2) m (nI s) k = t.2.2.1 2 k := fun k h => if_neg h
  have k3 : ∀ k, k ≠ m → upd (t.2.2.1 3) m (nI d) k = t.2.2.1 3 k := fun k h => if_neg h
  refine hc_add_go (s := s) (d := d) (B := (sA (sA (sA t 2 (upd (t.2.2.1 2) m (nI s))) 3 (upd (t.2.2.1 3) m (nI d))) 4 (upd (t.2.2.1 4) s (nI m))).2.2.1) hm hs hd hsd (fun t' i b eB => hQ t' i b (congrFun eB 1) (congrFun eB 3)) 8 0 K _ _ (by omega) (by omega) ?_ (fun k hk => hc_fa_fr (bA k hk) (k2 k (by omega)) (k3 k (by omega)) rfl) ?_ (fun k f h1 h2 => bZ k f (by omega) h2) ?_ ?_ (if_pos rfl) (if_pos rfl) (fun f hf => absurd ((bZ m f (Nat.le_refl m) (by omega)).symm.trans hf) (by decide)) rfl rfl rfl
  · obtain ⟨a1, a2, a3, a4, a5, a6, a7, a8, a9, a10, a11⟩ := hI
    refine ⟨a1, a2, a3, a4, a5, fun k hk => ?_, fun a ha => ?_, a8, a9, a10, a11⟩
    · show ∃ e, e < 5 ∧ upd (t.2.2.1 3) m (nI d) k = nI e
      by_cases x : k = m
      · exact ⟨d, hd, if_pos x⟩
      · obtain ⟨e, he, ee⟩ := a6 k hk
        exact ⟨e, he, (if_neg x).trans ee⟩
    · show hx_p (upd (t.2.2.1 4) s (nI m) a)
      by_cases x : a = s
      · rw [show upd (t.2.2.1 4) s (nI m) a = nI m from if_pos x]; exact Or.inr ⟨m, by omega, rfl⟩
      · rw [show upd (t.2.2.1 4) s (nI m) a = t.2.2.1 4 a from if_neg x]; exact a7 a ha
  · intro d' k hd' hk
    have hk : hb (vp_updL (t.2.2.2 2) d v6 d') k = true := hk
    show k < m + 1 ∧ upd (t.2.2.1 3) m (nI d) k = nI d'
    by_cases x : d' = d
    · subst x
      rw [show vp_updL (t.2.2.2 2) d' v6 d' = v6 from if_pos rfl, f6, hb_or] at hk
      cases c : hb v4 k with
      | true =>
        rw [f4] at c
        obtain ⟨q1, q2⟩ := bO d' k hd' c
        exact ⟨by omega, (k3 k (by omega)).trans q2⟩
      | false =>
        rw [c, Bool.false_or, hb_one f5] at hk
        have e : m = k := of_decide_eq_true hk
        subst e
        exact ⟨by omega, if_pos rfl⟩
    · rw [show vp_updL (t.2.2.2 2) d v6 d' = t.2.2.2 2 d' from if_neg x] at hk
      obtain ⟨q1, q2⟩ := bO d' k hd' hk
      exact ⟨by omega, (k3 k (by omega)).trans q2⟩
  · intro a ha
    by_cases x : a = s
    · exact Or.inl x
    · refine Or.inr ?_
      show upd (t.2.2.1 4) s (nI m) a = -1 ∨ ∃ f, f < m ∧ upd (t.2.2.1 4) s (nI m) a = nI f
      rw [show upd (t.2.2.1 4) s (nI m) a = t.2.2.1 4 a from if_neg x]
      exact bN a ha
  · exact if_pos rfl
theorem hc_build_in {z : Int32} {d0 : Nat} {lj : Nat → Int64} {Q : XT → Prop} (hd0 : d0 < 5) (M : Nat) (hM : 200 ≤ M)
    (cont : ∀ (K' m : Nat) (t' : XT) (li' : Nat → Int32), M ≤ K' → hx_inv t' z m → hc_b t' m → li' 2 = nI d0 → wpX9_build_c13 K' 4 t' li' lj Q) :
    ∀ (d i m K : Nat) (t : XT) (li : Nat → Int32), i + d = 256 → 2 * d + M + 5 ≤ K → hx_inv t z m → hc_b t m → li 2 = nI d0 → li 3 = nI i → wpX9_build_c13 K 2 t li lj Q := by
  intro d
  induction d with
  | zero =>
    intro i m K t li hd hK hI hB e2 e3
    obtain ⟨K, rfl⟩ : ∃ K', K = K' + 1 := ⟨K - 1, by omega⟩
    obtain rfl : i = 256 := by omega
    show wbX9_build_c13_2 (wpX9_build_c13 K) K t li lj Q
    exact ⟨fun _ => cont K m t li (by omega) hI hB e2, fun x => absurd (show nI 256 ≤ li 3 by rw [e3]; exact nI_le (by omega) (by omega)) x⟩
  | succ d ih =>
    intro i m K t li hd hK hI hB e2 e3
    obtain ⟨K, rfl⟩ : ∃ K', K = K' + 2 := ⟨K - 2, by omega⟩
    have nx : ∀ (m' : Nat) (t' : XT), hx_inv t' z m' → hc_b t' m' → wpX9_build_c13 (K + 1) 3 t' li lj Q := by
      intro m' t' hI' hB'
      show wbX9_build_c13_3 (wpX9_build_c13 K) K t' li lj Q
      intro v e
      exact ih (i + 1) m' K t' _ (by omega) (by omega) hI' hB' e2 (by show v = _; rw [e, e3]; exact hs_inc i)
    have m60 := hI.2.2.1
    show wbX9_build_c13_2 (wpX9_build_c13 (K + 1)) (K + 1) t li lj Q
    unfold wbX9_build_c13_2
    rw [e2, e3, hI.2.1]
    have hin := vp_in_nI (n := i) (N := 256) (by omega) (by decide)
    refine ⟨fun _ => cont _ m t li (by omega) hI hB e2, fun _ => ⟨fun _ => cont _ m t li (by omega) hI hB e2, fun _ => ⟨hin, fun v9 _ => ⟨fun _ => nx m t hI hB, fun _ => hm_bitCount (by omega) (fun v12 f12 => ⟨fun _ => nx m t hI hB, fun q => ⟨fun _ => nx m t hI hB, fun lt => ?_⟩⟩)⟩⟩⟩⟩
    have lt : ¬ nI 60 ≤ nI m := lt
    have hm : m < 60 := Nat.lt_of_not_le (fun q => lt (nI_le q (by omega)))
    have hn8 := hc_nb8 i (by omega)
    have f12 : v12 = nI (d0 + 1) := f12.trans (nI_1 d0)
    have hsd : nb 8 i = d0 + 1 := by
      have q : nI (nb 8 i) = nI (d0 + 1) := by rw [← hc_bc i (by omega)]; exact q.trans f12
      exact (nI_eq (by omega) (by omega)).mp q
    exact hc_add hI hB hm (by omega) hd0 hsd (by omega) (fun t15 h15 b15 _ _ => nx (m + 1) t15 h15 b15)
theorem hc_build_go {z : Int32} {lj : Nat → Int64} {Q : XT → Prop} (hQ : ∀ m t', hx_inv t' z m → hc_b t' m → Q t') :
    ∀ (d i m K : Nat) (t : XT) (li : Nat → Int32), i + d = 5 → 700 * d + 300 ≤ K → hx_inv t z m → hc_b t m → li 2 = nI i → wpX9_build_c13 K 1 t li lj Q := by
  intro d
  induction d with
  | zero =>
    intro i m K t li hd hK hI hB e2
    obtain ⟨K, rfl⟩ : ∃ K', K = K' + 1 := ⟨K - 1, by omega⟩
    obtain rfl : i = 5 := by omega
    show wbX9_build_c13_1 (wpX9_build_c13 K) K t li lj Q
    exact ⟨fun _ => hQ m t hI hB, fun x => absurd (show nI 5 ≤ li 2 by rw [e2]; exact nI_le (by omega) (by omega)) x⟩
  | succ d ih =>
    intro i m K t li hd hK hI hB e2
    obtain ⟨K, rfl⟩ : ∃ K', K = K' + 1 := ⟨K - 1, by omega⟩
    obtain ⟨M, hM⟩ : ∃ M, M = 700 * d + 301 := ⟨_, rfl⟩
    show wbX9_build_c13_1 (wpX9_build_c13 K) K t li lj Q
    refine ⟨fun _ => hQ m t hI hB, fun _ => ?_⟩
    refine hc_build_in (d0 := i) (by omega) M (by omega) (fun K' m' t' li' h hI' hB' a2 => ?_) 255 1 m K t _ (by omega) (by omega) hI hB e2 rfl
    obtain ⟨K', rfl⟩ : ∃ K'', K' = K'' + 1 := ⟨K' - 1, by omega⟩
    show wbX9_build_c13_4 (wpX9_build_c13 K') K' t' li' lj Q
    intro v e
    exact ih (i + 1) m' K' t' _ (by omega) (by omega) hI' hB' (by show v = _; rw [e, a2]; exact hs_inc i)
theorem hc_build {t : XT} {z : Int32} {m K : Nat} {Q : XT → Prop} (hI : hx_inv t z m) (hK : 4000 ≤ K) (hQ : ∀ m t', hx_inv t' z m → hc_b t' m → Q t') : wqX9_build_c13 K t Q := by
  obtain ⟨K, rfl⟩ : ∃ K', K = K' + 1 := ⟨K - 1, by omega⟩
  show wbX9_build_c13_0 (wpX9_build_c13 K) K t (fun _ => 0) (fun _ => 0) Q
  intro t1 e1 t2 e2 t3 e3 t4 e4 t5 e5
  obtain ⟨a1, a2, a3, a4, a5, a6, a7, a8, a9, a10, a11⟩ := hI
  subst e5 e4 e3 e2 e1
  refine hc_build_go hQ 5 0 0 K _ _ (by omega) (by omega) ⟨a1, rfl, by omega, a4, a5, a6, fun _ _ => Or.inl rfl, a8, a9, a10, a11⟩ ⟨fun k hk => absurd hk (by omega), fun d k hd hk => ?_, fun k f _ _ => hb_0 f, fun _ _ => Or.inl rfl⟩ rfl
  have hk : hb 0 k = true := hk
  rw [hb_0] at hk
  exact absurd hk (by decide)
theorem hc_sh_fr {t t' : XT} (h : hc_sh t) (e4 : t'.1 4 = t.1 4) (e2 : t'.2.2.1 2 = t.2.2.1 2) (e3 : t'.2.2.1 3 = t.2.2.1 3) (f0 : t'.2.2.2 0 = t.2.2.2 0) (f2 : t'.2.2.2 2 = t.2.2.2 2) : hc_sh t' := by
  obtain ⟨m, a1, a2, a3, a4⟩ := h
  refine ⟨m, a1, e4.trans a2, fun k hk => hc_fa_fr (a3 k hk) (by rw [e2]) (by rw [e3]) (by rw [f0]), fun d k hd hk => ?_⟩
  rw [f2] at hk
  rw [e3]; exact a4 d k hd hk
theorem hc_uI {α : Type} (f : Nat → α) {k j : Nat} (v : α) (h : k ≠ j) : uI f k v j = f j := by
  show cond (Nat.beq j k) v (f j) = f j
  cases q : Nat.beq j k with
  | false => rfl
  | true => exact absurd (Nat.eq_of_beq_eq_true q).symm h
theorem hc_kp : kp hc_sh := by
  refine ⟨fun u i v hi h => ?_, fun u i v h => ?_, fun u i f h2 h3 h4 h => ?_, fun u i f h0 h1 h2 h => ?_⟩
  · exact hc_sh_fr h (hc_uI u.1 v hi) rfl rfl rfl rfl
  · exact hc_sh_fr h rfl rfl rfl rfl rfl
  · exact hc_sh_fr h rfl (hc_uI u.2.2.1 f h2) (hc_uI u.2.2.1 f h3) rfl rfl
  · exact hc_sh_fr h rfl rfl rfl (hc_uI u.2.2.2 f h0) (hc_uI u.2.2.2 f h2)
theorem hc_sh_b {t : XT} {z : Int32} {m : Nat} (hI : hx_inv t z m) (hB : hc_b t m) : hc_sh t := ⟨m, hI.2.2.1, hI.2.1, hB.1, hB.2.1⟩
theorem hc_complex {t : XT} {y m K : Nat} {Q : Int32 → XT → Prop} (hI : hx_inv t (nI y) m) (hS : hc_sh t) (hy : y ≤ 160) (hK : 5000 ≤ K) (hQ : ∀ r m' t', hx_inv t' (nI 0) m' → hc_sh t' → Q r t') : wqX11_complex K t Q := by
  obtain ⟨K, rfl⟩ : ∃ K', K = K' + 1 := ⟨K - 1, by omega⟩
  show wbX11_complex_0 (wpX11_complex K) K t (fun _ => 0) (fun _ => 0) Q
  have rd : wqX8_read_c1 K t (fun _ t1 => ∃ p1, hx_rd t1 y m p1) := hz_read hI hy (by omega) (fun r1 p1 t1 h1 => ⟨p1, h1⟩)
  refine wcX8_read_c1 hc_kp hS rd (fun r1 t1 h1 s1 t2 e2 => ?_)
  obtain ⟨p1, h1⟩ := h1
  have h2 : hx_inv t2 (nI 0) m := by
    obtain ⟨a1, a2, a3, a4, a5, a6, a7, a8, a9, a10, a11⟩ := h1.1
    subst e2
    exact ⟨rfl, a2, a3, a4, a5, a6, a7, a8, a9, a10, a11⟩
  have s2 : hc_sh t2 := by rw [e2]; exact hc_kp.1 _ _ _ (by decide) s1
  refine ⟨fun _ => hc_build h2 (by omega) (fun m4 t4 h4 b4 => ?_), fun _ v9 _ => hQ v9 m t2 h2 s2⟩
  refine hz_all (by omega) (fun v => ?_)
  have rs : wqX6_restart K t4 v (fun t' => hx_inv t' (nI 0) m4) := hz_restart h4 (by omega) (fun t' h' => h')
  refine wcX6_restart hc_kp (hc_sh_b h4 b4) rs (fun t6 h6 s6 t7 e7 => ?_)
  obtain ⟨K, rfl⟩ : ∃ K', K = K' + 1 := ⟨K - 1, by omega⟩
  intro t8 e8
  have s8 : hc_sh t8 := by rw [e8, e7]; exact hc_kp.2.1 _ _ _ (hc_kp.1 _ _ _ (by decide) s6)
  refine hQ _ m4 t8 ?_ s8
  subst e8 e7
  exact hx_frame h6 rfl rfl rfl rfl rfl rfl h6.2.2.2.2.2.2.2.1 rfl rfl
