/-! ===== the class: complex lays faces of one DIM less ===== -/
def h6_b (t : XT) (m : Nat) : Prop := hc_b t m ∧ (∀ a f, a < 256 → f < m → t.2.2.1 4 a = nI f → ∃ e, nb 8 a = e + 1 ∧ t.2.2.1 3 f = nI e) ∧ ∀ k f, k < m → hb (t.2.2.2 0 k) f = true → ∃ e, e < 4 ∧ t.2.2.1 3 k = nI (e + 1) ∧ t.2.2.1 3 f = nI e
theorem h6_nb : ∀ l, l < 8 → ∀ s, s < 256 → s.testBit l = true → nb 8 ((nI s &&& ((1 <<< (nI l &&& 31)) ^^^ (-1))).toNatClampNeg) + 1 = nb 8 s := by decide +kernel
theorem h6_add_go {z : Int32} {m s d : Nat} {lj : Nat → Int64} {B : Nat → Nat → Int32} {Q : XT → Prop} (hm : m < 60) (hs : s < 256) (hd : d < 5) (hsd : nb 8 s = d + 1) (hQ : ∀ t', hx_inv t' z (m + 1) → h6_b t' (m + 1) → t'.2.2.1 = B → Q t') :
    ∀ (e l K : Nat) (t : XT) (li : Nat → Int32), l + e = 8 → 3 * e + 10 ≤ K → hx_inv t z m → (∀ k, k < m → hc_fa t k) → hc_of t (m + 1) → (∀ k f, m + 1 ≤ k → k < 64 → hb (t.2.2.2 0 k) f = false) → (∀ a, a < 256 → a = s ∨ t.2.2.1 4 a = -1 ∨ ∃ f, f < m ∧ t.2.2.1 4 a = nI f) → t.2.2.1 4 s = nI m → t.2.2.1 2 m = nI s → t.2.2.1 3 m = nI d → (∀ f, hb (t.2.2.2 0 m) f = true → f < m ∧ ∃ l', l' < l ∧ s.testBit l' = true ∧ (t.2.2.1 4 (nI s &&& ((1 <<< (nI l' &&& 31)) ^^^ (-1))).toNatClampNeg).toNatClampNeg = f) → (∀ a f, a < 256 → a ≠ s → f < m → t.2.2.1 4 a = nI f → ∃ e, nb 8 a = e + 1 ∧ t.2.2.1 3 f = nI e) → (∀ k f, k < m → hb (t.2.2.2 0 k) f = true → ∃ e, e < 4 ∧ t.2.2.1 3 k = nI (e + 1) ∧ t.2.2.1 3 f = nI e) → (∀ f, hb (t.2.2.2 0 m) f = true → ∃ j, j < 256 ∧ j ≠ s ∧ nb 8 j + 1 = nb 8 s ∧ f < m ∧ t.2.2.1 4 j = nI f) → t.2.2.1 = B → li 1 = nI s → li 3 = nI l → wpX9_add K 1 t li lj Q := by
  intro e
  induction e with
  | zero =>
    intro l K t li he hK hI hA hB hZ hN hn h2 h3 hF h6N h6A h6F eB e1 e3
    obtain ⟨K, rfl⟩ : ∃ K', K = K' + 1 := ⟨K - 1, by omega⟩
    obtain rfl : l = 8 := by omega
    show wbX9_add_1 (wpX9_add K) K t li lj Q
    refine ⟨fun _ v9 e9 t10 e10 => ?_, fun x => absurd (show nI 8 ≤ li 3 by rw [e3]; exact nI_le (by omega) (by omega)) x⟩
    have hI' : hx_inv t10 z (m + 1) := by
      obtain ⟨a1, a2, a3, a4, a5, a6, a7, a8, a9, a10, a11⟩ := hI
      have e9 : v9 = nI (m + 1) := by rw [e9, a2]; exact nI_1 m
      subst e10
      exact ⟨a1, e9, by omega, a4, a5, a6, a7, a8, a9, a10, a11⟩
    refine hQ t10 hI' ⟨⟨fun k hk => ?_, ?_, ?_, fun a ha => ?_⟩, fun a f ha hf q => ?_, fun k f hk hf => ?_⟩ (by rw [e10]; exact eB)
    · by_cases q : k = m
      · subst q
        refine ⟨s, d, fun l' => (t.2.2.1 4 (nI s &&& ((1 <<< (nI l' &&& 31)) ^^^ (-1))).toNatClampNeg).toNatClampNeg, hs, hd, ?_, ?_, hsd, fun f hf => ?_⟩
        · rw [e10]; exact h2
        · rw [e10]; exact h3
        · rw [e10] at hf
          exact hF f hf
      · exact hc_fa_fr (hA k (by omega)) (by rw [e10]; rfl) (by rw [e10]; rfl) (by rw [e10]; rfl)
    · rw [e10]; exact hB
    · rw [e10]; exact hZ
    · rw [e10]
      rcases hN a ha with q | q | ⟨f, hf, q⟩
      · exact Or.inr ⟨m, by omega, by rw [q]; exact hn⟩
      · exact Or.inl q
      · exact Or.inr ⟨f, by omega, q⟩
    · rw [e10] at q ⊢
      have q : t.2.2.1 4 a = nI f := q
      show ∃ e, nb 8 a = e + 1 ∧ t.2.2.1 3 f = nI e
      by_cases x : a = s
      · have : f = m := (nI_eq (by omega) (by omega)).mp (q.symm.trans (by rw [x]; exact hn))
        exact ⟨d, by rw [x]; exact hsd, by rw [this]; exact h3⟩
      · rcases hN a ha with y | y | ⟨f', hf', y⟩
        · exact absurd y x
        · have w := congrArg Int32.toInt (y.symm.trans q)
          rw [nI_toInt (by omega)] at w
          have w : (-1 : Int) = (f : Int) := w
          omega
        · have : f = f' := (nI_eq (by omega) (by omega)).mp (q.symm.trans y)
          exact h6N a f ha x (by omega) q
    · rw [e10] at hf ⊢
      have hf : hb (t.2.2.2 0 k) f = true := hf
      show ∃ e, e < 4 ∧ t.2.2.1 3 k = nI (e + 1) ∧ t.2.2.1 3 f = nI e
      by_cases x : k = m
      · rw [x] at hf ⊢
        obtain ⟨j, j1, j2, j3, j4, j5⟩ := h6F f hf
        obtain ⟨e, y1, y2⟩ := h6N j f j1 j2 j4 j5
        refine ⟨e, by omega, ?_, y2⟩
        rw [h3, show d = e + 1 by omega]
      · exact h6A k f (by omega) hf
  | succ e ih =>
    intro l K t li he hK hI hA hB hZ hN hn h2 h3 hF h6N h6A h6F eB e1 e3
    obtain ⟨K, rfl⟩ : ∃ K', K = K' + 3 := ⟨K - 3, by omega⟩
    have cm : (nI m).toNatClampNeg = m := nI_clamp (by omega)
    have three : ∀ (K2 : Nat) (t' : XT) (li' : Nat → Int32), K + 1 ≤ K2 → hx_inv t' z m → (∀ k, k < m → hc_fa t' k) → hc_of t' (m + 1) → (∀ k f, m + 1 ≤ k → k < 64 → hb (t'.2.2.2 0 k) f = false) → t'.2.2.1 = t.2.2.1 → (∀ f, hb (t'.2.2.2 0 m) f = true → f < m ∧ ∃ l', l' < l + 1 ∧ s.testBit l' = true ∧ (t.2.2.1 4 (nI s &&& ((1 <<< (nI l' &&& 31)) ^^^ (-1))).toNatClampNeg).toNatClampNeg = f) → (∀ k f, k < m → hb (t'.2.2.2 0 k) f = true → ∃ e, e < 4 ∧ t.2.2.1 3 k = nI (e + 1) ∧ t.2.2.1 3 f = nI e) → (∀ f, hb (t'.2.2.2 0 m) f = true → ∃ j, j < 256 ∧ j ≠ s ∧ nb 8 j + 1 = nb 8 s ∧ f < m ∧ t.2.2.1 4 j = nI f) → li' 1 = nI s → li' 3 = nI l → wpX9_add K2 3 t' li' lj Q := by
      intro K2 t' li' h hI' b1 b2 b3 b4 b5 c6 c7 b6 b7
      obtain ⟨K2, rfl⟩ : ∃ K', K2 = K' + 1 := ⟨K2 - 1, by omega⟩
      show wbX9_add_3 (wpX9_add K2) K2 t' li' lj Q
      intro v ev
      exact ih (l + 1) K2 t' _ (by omega) (by omega) hI' b1 b2 b3 (by rw [b4]; exact hN) (by rw [b4]; exact hn) (by rw [b4]; exact h2) (by rw [b4]; exact h3) (by rw [b4]; exact b5) (by rw [b4]; exact h6N) (by rw [b4]; exact c6) (by rw [b4]; exact c7) (b4.trans eB) b6 (by show v = _; rw [ev, b7]; exact hs_inc l)
    have keepF : ∀ f, hb (t.2.2.2 0 m) f = true → f < m ∧ ∃ l', l' < l + 1 ∧ s.testBit l' = true ∧ (t.2.2.1 4 (nI s &&& ((1 <<< (nI l' &&& 31)) ^^^ (-1))).toNatClampNeg).toNatClampNeg = f := by
      intro f hf
      obtain ⟨p, l', q1, q2, q3⟩ := hF f hf
      exact ⟨p, l', by omega, q2, q3⟩
    have none : ∀ (K2 : Nat) (li' : Nat → Int32), K + 2 ≤ K2 → li' 100 = -1 → li' 1 = nI s → li' 3 = nI l → wpX9_add K2 2 t li' lj Q := by
      intro K2 li' h b0 b1 b3
      obtain ⟨K2, rfl⟩ : ∃ K', K2 = K' + 1 := ⟨K2 - 1, by omega⟩
      show wbX9_add_2 (wpX9_add K2) K2 t li' lj Q
      exact ⟨fun _ => three K2 t _ (by omega) hI hA hB hZ rfl keepF h6A h6F b1 b3, fun x => absurd b0 x⟩
    show wbX9_add_1 (wpX9_add (K + 2)) (K + 2) t li lj Q
    unfold wbX9_add_1
    rw [e1, e3]
    refine ⟨fun x => ?_, fun _ v11 f11 v12 f12 v13 f13 => ⟨fun _ => none _ _ (by omega) rfl e1 e3, fun ne => ?_⟩⟩
    · exfalso
      have x : nI 8 ≤ nI l := x
      have := (nI_leI (a := 8) (b := l) (by omega) (by omega)).mp x
      omega
    · have f13' : v13 = nI s &&& ((1 <<< (nI l &&& 31)) ^^^ (-1)) := by rw [f13, f12, f11]
      have tb : s.testBit l = true := Classical.byContradiction (fun q => ne (by rw [f13']; exact (hc_cl (by omega) hs).mpr q))
      obtain ⟨j, hj, ej⟩ := hz_and255 hs ((1 <<< (nI l &&& 31)) ^^^ (-1))
      have g13 : v13 = nI j := f13'.trans ej
      have njs : j ≠ s := fun q => ne (by rw [g13, q])
      subst g13
      refine ⟨vp_in_nI hj (by decide), fun v15 e15 => ?_⟩
      rw [nI_clamp (by omega)] at e15
      rcases hN j hj with q | q | ⟨f0, hf0, q⟩
      · exact absurd q njs
      · exact none _ _ (by omega) (by show v15 = _; rw [e15, q]) e1 e3
      · have e15 : v15 = nI f0 := e15.trans q
        subst e15
        show wbX9_add_2 (wpX9_add (K + 1)) (K + 1) t _ lj Q
        have hsz : vp_in (t.1 4) 64 := by rw [hI.2.1]; exact vp_in_nI (by omega) (by decide)
        have fin : vp_in (nI f0) 64 := vp_in_nI (by omega) (by decide)
        refine ⟨fun z0 => ?_, fun _ => ⟨hsz, fun v17 e17 => hw_bit (k := f0) (by omega) (by omega) (fun v18 e18 v19 e19 => ⟨hsz, fun t20 e20 => ⟨fin, fun v21 e21 => hz_bit (by omega) (fun v22 v23 e23 => ⟨fin, fun t24 e24 => ?_⟩)⟩⟩)⟩⟩
        · exfalso
          have z0 : nI f0 = -1 := z0
          have w : (nI f0).toInt = (-1 : Int32).toInt := congrArg Int32.toInt z0
          rw [nI_toInt (by omega)] at w
          have w : (f0 : Int) = -1 := w
          omega
        · rw [hI.2.1, cm] at e17 e20
          have r0 : ∀ k, k ≠ m → t24.2.2.2 0 k = t.2.2.2 0 k := by
            intro k hk
            rw [e24, e20]
            exact if_neg hk
          have rm : t24.2.2.2 0 m = v19 := by
            rw [e24, e20]
            exact if_pos rfl
          refine three _ t24 _ (by omega) (by rw [e24, e20]; exact hx_same hI rfl rfl) (fun k hk => hc_fa_fr (hA k hk) (by rw [e24, e20]; rfl) (by rw [e24, e20]; rfl) (r0 k (by omega))) (by rw [e24, e20]; exact hB) (fun k f hk1 hk2 => by rw [r0 k (by omega)]; exact hZ k f hk1 hk2) (by rw [e24, e20]; rfl) (fun f hf => ?_) (fun k f hk hf => h6A k f hk (by rw [← r0 k (by omega)]; exact hf)) (fun f hf => ?_) e1 e3
          · rw [rm, e19, hb_or, e17] at hf
            cases c : hb (t.2.2.2 0 m) f with
            | true => exact keepF f c
            | false =>
              rw [c, Bool.false_or, hb_one e18] at hf
              have e : f0 = f := of_decide_eq_true hf
              subst e
              refine ⟨hf0, l, by omega, tb, ?_⟩
              rw [ej, nI_clamp (by omega), q, nI_clamp (by omega)]
          · rw [rm, e19, hb_or, e17] at hf
            cases c : hb (t.2.2.2 0 m) f with
            | true => exact h6F f c
            | false =>
              rw [c, Bool.false_or, hb_one e18] at hf
              have e : f0 = f := of_decide_eq_true hf
              subst e
              refine ⟨j, hj, njs, ?_, hf0, q⟩
              have := h6_nb l (by omega) s hs tb
              rw [ej, nI_clamp (by omega)] at this
              exact this
theorem h6_add {t : XT} {z : Int32} {m s d K : Nat} {Q : XT → Prop} (hI : hx_inv t z m) (hB : h6_b t m) (hm : m < 60) (hs : s < 256) (hd : d < 5) (hsd : nb 8 s = d + 1) (hK : 100 ≤ K) (hQ : ∀ t', hx_inv t' z (m + 1) → h6_b t' (m + 1) → t'.2.2.1 1 = t.2.2.1 1 → t'.2.2.1 3 = upd (t.2.2.1 3) m (nI d) → Q t') : wqX9_add K t (nI s) (nI d) Q := by
  obtain ⟨K, rfl⟩ : ∃ K', K = K' + 1 := ⟨K - 1, by omega⟩
  have e4 := hI.2.1
  have cm : (nI m).toNatClampNeg = m := nI_clamp (by omega)
  have cs : (nI s).toNatClampNeg = s := nI_clamp (by omega)
  have cd : (nI d).toNatClampNeg = d := nI_clamp (by omega)
  have hmi := vp_in_nI (n := m) (N := 64) (by omega) (by decide)
  have hdi := vp_in_nI (n := d) (N := 5) hd (by decide)
  obtain ⟨⟨bA, bO, bZ, bN⟩, b6N, b6A⟩ := hB
  show wbX9_add_0 (wpX9_add K) K t (uI (uI (fun _ => 0) 1 (nI s)) 2 (nI d)) (fun _ => 0) Q
  refine ⟨by rw [e4]; exact hmi, fun t1 e1 => ?_⟩
  have e41 : t1.1 4 = nI m := by rw [e1]; exact e4
  refine ⟨by rw [e41]; exact hmi, fun t2 e2 => ⟨vp_in_nI (n := s) hs (by decide), fun t3 e3 => ⟨hdi, fun v4 f4 => ?_⟩⟩⟩
  have e42 : t2.1 4 = nI m := by rw [e2]; exact e41
  have e43 : t3.1 4 = nI m := by rw [e3]; exact e42
  rw [e43]
  refine hw_bit (k := m) (by omega) (by omega) (fun v5 f5 v6 f6 => ⟨hdi, fun t7 e7 => ?_⟩)
  rw [e4, cm] at e1
  rw [e41, cm] at e2
  rw [e42] at e3
  have e3 : t3 = sA t2 4 (upd (t2.2.2.1 4) (nI s).toNatClampNeg (nI m)) := e3
  rw [cs] at e3
  have e2 : t2 = sA t1 3 (upd (t1.2.2.1 3) m (nI d)) := e2
  have e1 : t1 = sA t 2 (upd (t.2.2.1 2) m (nI s)) := e1
  have e7 : t7 = sB t3 2 (vp_updL (t3.2.2.2 2) (nI d).toNatClampNeg v6) := e7
  have f4 : v4 = t3.2.2.2 2 (nI d).toNatClampNeg := f4
  rw [cd] at e7 f4
  subst e7 e3 e2 e1
  have k2 : ∀ k, k ≠ m → upd (t.2.2.1 2) m (nI s) k = t.2.2.1 2 k := fun k h => if_neg h
  have k3 : ∀ k, k ≠ m → upd (t.2.2.1 3) m (nI d) k = t.2.2.1 3 k := fun k h => if_neg h
  refine h6_add_go (s := s) (d := d) (B := (sA (sA (sA t 2 (upd (t.2.2.1 2) m (nI s))) 3 (upd (t.2.2.1 3) m (nI d))) 4 (upd (t.2.2.1 4) s (nI m))).2.2.1) hm hs hd hsd (fun t' i b eB => hQ t' i b (congrFun eB 1) (congrFun eB 3)) 8 0 K _ _ (by omega) (by omega) ?_ (fun k hk => hc_fa_fr (bA k hk) (k2 k (by omega)) (k3 k (by omega)) rfl) ?_ (fun k f h1 h2 => bZ k f (by omega) h2) ?_ ?_ (if_pos rfl) (if_pos rfl) (fun f hf => absurd ((bZ m f (Nat.le_refl m) (by omega)).symm.trans hf) (by decide)) ?_ ?_ (fun f hf => absurd ((bZ m f (Nat.le_refl m) (by omega)).symm.trans hf) (by decide)) rfl rfl rfl
  · obtain ⟨a1, a2, a3, a4, a5, a6, a7, a8, a9, a10, a11⟩ := hI
    refine ⟨a1, a2, a3, a4, a5, fun k hk => ?_, fun a ha => ?_, a8, a9, a10, a11⟩
    · show ∃ e, e < 5 ∧ upd (t.2.2.1 3) m (nI d) k = nI e
      by_cases x : k = m
      · exact ⟨d, hd, if_pos x⟩
      · obtain ⟨e, he, ee⟩ := a6 k hk
        exact ⟨e, he, (if_neg x).trans ee⟩
    · show hx_p (upd (t.2.2.1 4) s (nI m) a)
      by_cases x : a = s
      · rw [show upd (t.2.2.1 4) s (nI m) a = nI m from if_pos x]; exact Or.inr ⟨m, by omega, rfl⟩
      · rw [show upd (t.2.2.1 4) s (nI m) a = t.2.2.1 4 a from if_neg x]; exact a7 a ha
  · intro d' k hd' hk
    have hk : hb (vp_updL (t.2.2.2 2) d v6 d') k = true := hk
    show k < m + 1 ∧ upd (t.2.2.1 3) m (nI d) k = nI d'
    by_cases x : d' = d
    · subst x
      rw [show vp_updL (t.2.2.2 2) d' v6 d' = v6 from if_pos rfl, f6, hb_or] at hk
      cases c : hb v4 k with
      | true =>
        rw [f4] at c
        obtain ⟨q1, q2⟩ := bO d' k hd' c
        exact ⟨by omega, (k3 k (by omega)).trans q2⟩
      | false =>
        rw [c, Bool.false_or, hb_one f5] at hk
        have e : m = k := of_decide_eq_true hk
        subst e
        exact ⟨by omega, if_pos rfl⟩
    · rw [show vp_updL (t.2.2.2 2) d v6 d' = t.2.2.2 2 d' from if_neg x] at hk
      obtain ⟨q1, q2⟩ := bO d' k hd' hk
      exact ⟨by omega, (k3 k (by omega)).trans q2⟩
  · intro a ha
    by_cases x : a = s
    · exact Or.inl x
    · refine Or.inr ?_
      show upd (t.2.2.1 4) s (nI m) a = -1 ∨ ∃ f, f < m ∧ upd (t.2.2.1 4) s (nI m) a = nI f
      rw [show upd (t.2.2.1 4) s (nI m) a = t.2.2.1 4 a from if_neg x]
      exact bN a ha
  · exact if_pos rfl
  · intro a f ha hne hf q
    have q : upd (t.2.2.1 4) s (nI m) a = nI f := q
    rw [show upd (t.2.2.1 4) s (nI m) a = t.2.2.1 4 a from if_neg hne] at q
    obtain ⟨e, q1, q2⟩ := b6N a f ha hf q
    exact ⟨e, q1, (k3 f (by omega)).trans q2⟩
  · intro k f hk hf
    have hf : hb (t.2.2.2 0 k) f = true := hf
    obtain ⟨e, e4, q1, q2⟩ := b6A k f hk hf
    have fk : f < k := by
      obtain ⟨_, _, _, _, _, _, _, _, q5⟩ := bA k hk
      exact (q5 f hf).1
    exact ⟨e, e4, (k3 k (by omega)).trans q1, (k3 f (by omega)).trans q2⟩
theorem h6_build_in {z : Int32} {d0 : Nat} {lj : Nat → Int64} {Q : XT → Prop} (hd0 : d0 < 5) (M : Nat) (hM : 200 ≤ M)
    (cont : ∀ (K' m : Nat) (t' : XT) (li' : Nat → Int32), M ≤ K' → hx_inv t' z m → h6_b t' m → li' 2 = nI d0 → wpX9_build_c13 K' 4 t' li' lj Q) :
    ∀ (d i m K : Nat) (t : XT) (li : Nat → Int32), i + d = 256 → 2 * d + M + 5 ≤ K → hx_inv t z m → h6_b t m → li 2 = nI d0 → li 3 = nI i → wpX9_build_c13 K 2 t li lj Q := by
  intro d
  induction d with
  | zero =>
    intro i m K t li hd hK hI hB e2 e3
    obtain ⟨K, rfl⟩ : ∃ K', K = K' + 1 := ⟨K - 1, by omega⟩
    obtain rfl : i = 256 := by omega
    show wbX9_build_c13_2 (wpX9_build_c13 K) K t li lj Q
    exact ⟨fun _ => cont K m t li (by omega) hI hB e2, fun x => absurd (show nI 256 ≤ li 3 by rw [e3]; exact nI_le (by omega) (by omega)) x⟩
  | succ d ih =>
    intro i m K t li hd hK hI hB e2 e3
    obtain ⟨K, rfl⟩ : ∃ K', K = K' + 2 := ⟨K - 2, by omega⟩
    have nx : ∀ (m' : Nat) (t' : XT), hx_inv t' z m' → h6_b t' m' → wpX9_build_c13 (K + 1) 3 t' li lj Q := by
      intro m' t' hI' hB'
      show wbX9_build_c13_3 (wpX9_build_c13 K) K t' li lj Q
      intro v e
      exact ih (i + 1) m' K t' _ (by omega) (by omega) hI' hB' e2 (by show v = _; rw [e, e3]; exact hs_inc i)
    have m60 := hI.2.2.1
    show wbX9_build_c13_2 (wpX9_build_c13 (K + 1)) (K + 1) t li lj Q
    unfold wbX9_build_c13_2
    rw [e2, e3, hI.2.1]
    have hin := vp_in_nI (n := i) (N := 256) (by omega) (by decide)
    refine ⟨fun _ => cont _ m t li (by omega) hI hB e2, fun _ => ⟨fun _ => cont _ m t li (by omega) hI hB e2, fun _ => ⟨hin, fun v9 _ => ⟨fun _ => nx m t hI hB, fun _ => hm_bitCount (by omega) (fun v12 f12 => ⟨fun _ => nx m t hI hB, fun q => ⟨fun _ => nx m t hI hB, fun lt => ?_⟩⟩)⟩⟩⟩⟩
    have lt : ¬ nI 60 ≤ nI m := lt
    have hm : m < 60 := Nat.lt_of_not_le (fun q => lt (nI_le q (by omega)))
    have hn8 := hc_nb8 i (by omega)
    have f12 : v12 = nI (d0 + 1) := f12.trans (nI_1 d0)
    have hsd : nb 8 i = d0 + 1 := by
      have q : nI (nb 8 i) = nI (d0 + 1) := by rw [← hc_bc i (by omega)]; exact q.trans f12
      exact (nI_eq (by omega) (by omega)).mp q
    exact h6_add hI hB hm (by omega) hd0 hsd (by omega) (fun t15 h15 b15 _ _ => nx (m + 1) t15 h15 b15)
theorem h6_build_go {z : Int32} {lj : Nat → Int64} {Q : XT → Prop} (hQ : ∀ m t', hx_inv t' z m → h6_b t' m → Q t') :
    ∀ (d i m K : Nat) (t : XT) (li : Nat → Int32), i + d = 5 → 700 * d + 300 ≤ K → hx_inv t z m → h6_b t m → li 2 = nI i → wpX9_build_c13 K 1 t li lj Q := by
  intro d
  induction d with
  | zero =>
    intro i m K t li hd hK hI hB e2
    obtain ⟨K, rfl⟩ : ∃ K', K = K' + 1 := ⟨K - 1, by omega⟩
    obtain rfl : i = 5 := by omega
    show wbX9_build_c13_1 (wpX9_build_c13 K) K t li lj Q
    exact ⟨fun _ => hQ m t hI hB, fun x => absurd (show nI 5 ≤ li 2 by rw [e2]; exact nI_le (by omega) (by omega)) x⟩
  | succ d ih =>
    intro i m K t li hd hK hI hB e2
    obtain ⟨K, rfl⟩ : ∃ K', K = K' + 1 := ⟨K - 1, by omega⟩
    obtain ⟨M, hM⟩ : ∃ M, M = 700 * d + 301 := ⟨_, rfl⟩
    show wbX9_build_c13_1 (wpX9_build_c13 K) K t li lj Q
    refine ⟨fun _ => hQ m t hI hB, fun _ => ?_⟩
    refine h6_build_in (d0 := i) (by omega) M (by omega) (fun K' m' t' li' h hI' hB' a2 => ?_) 255 1 m K t _ (by omega) (by omega) hI hB e2 rfl
    obtain ⟨K', rfl⟩ : ∃ K'', K' = K'' + 1 := ⟨K' - 1, by omega⟩
    show wbX9_build_c13_4 (wpX9_build_c13 K') K' t' li' lj Q
    intro v e
    exact ih (i + 1) m' K' t' _ (by omega) (by omega) hI' hB' (by show v = _; rw [e, a2]; exact hs_inc i)
theorem h6_build {t : XT} {z : Int32} {m K : Nat} {Q : XT → Prop} (hI : hx_inv t z m) (hK : 4000 ≤ K) (hQ : ∀ m t', hx_inv t' z m → h6_b t' m → Q t') : wqX9_build_c13 K t Q := by
  obtain ⟨K, rfl⟩ : ∃ K', K = K' + 1 := ⟨K - 1, by omega⟩
  show wbX9_build_c13_0 (wpX9_build_c13 K) K t (fun _ => 0) (fun _ => 0) Q
  intro t1 e1 t2 e2 t3 e3 t4 e4 t5 e5
  obtain ⟨a1, a2, a3, a4, a5, a6, a7, a8, a9, a10, a11⟩ := hI
  subst e5 e4 e3 e2 e1
  refine h6_build_go hQ 5 0 0 K _ _ (by omega) (by omega) ⟨a1, rfl, by omega, a4, a5, a6, fun _ _ => Or.inl rfl, a8, a9, a10, a11⟩ ⟨⟨fun k hk => absurd hk (by omega), fun d k hd hk => ?_, fun k f _ _ => hb_0 f, fun _ _ => Or.inl rfl⟩, fun _ f _ hf => absurd hf (by omega), fun k f hk => absurd hk (by omega)⟩ rfl
  have hk : hb 0 k = true := hk
  rw [hb_0] at hk
  exact absurd hk (by decide)
