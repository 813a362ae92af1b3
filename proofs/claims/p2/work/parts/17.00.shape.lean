/-! ===== the class: what complex lays: letters, DIMS, FACES ===== -/
theorem hc_cl0 : (List.range 8).all (fun l => (List.range 256).all (fun s => decide ((nI s &&& ((1 <<< (nI l &&& 31)) ^^^ (-1)) = nI s) ↔ ¬ s.testBit l = true))) = true := by decide +kernel
theorem hc_cl {l s : Nat} (hl : l < 8) (hs : s < 256) : (nI s &&& ((1 <<< (nI l &&& 31)) ^^^ (-1)) = nI s) ↔ ¬ s.testBit l = true := by
  have h := List.all_eq_true.mp hc_cl0 l (List.mem_range.mpr hl)
  have g := List.all_eq_true.mp h s (List.mem_range.mpr hs)
  exact of_decide_eq_true g
theorem hc_bc : ∀ s, s < 256 → hm_bc (nI s) = nI (nb 8 s) := by decide +kernel
theorem hc_nb8 : ∀ s, s < 256 → nb 8 s ≤ 8 := by decide +kernel
/-- the FACES of k: of its letters each gives one at most -/
def hc_fa (t : XT) (k : Nat) : Prop := ∃ (s d : Nat) (g : Nat → Nat), s < 256 ∧ d < 5 ∧ t.2.2.1 2 k = nI s ∧ t.2.2.1 3 k = nI d ∧ nb 8 s = d + 1 ∧ ∀ f, hb (t.2.2.2 0 k) f = true → f < k ∧ ∃ l, l < 8 ∧ s.testBit l = true ∧ g l = f
def hc_of (t : XT) (m : Nat) : Prop := ∀ d k, d < 5 → hb (t.2.2.2 2 d) k = true → k < m ∧ t.2.2.1 3 k = nI d
def hc_sh (t : XT) : Prop := ∃ m, m ≤ 60 ∧ t.1 4 = nI m ∧ (∀ k, k < m → hc_fa t k) ∧ hc_of t m
/-- while it is laid: m are there -/
def hc_b (t : XT) (m : Nat) : Prop := (∀ k, k < m → hc_fa t k) ∧ hc_of t m ∧ (∀ k f, m ≤ k → k < 64 → hb (t.2.2.2 0 k) f = false) ∧ (∀ a, a < 256 → t.2.2.1 4 a = -1 ∨ ∃ f, f < m ∧ t.2.2.1 4 a = nI f)
theorem hc_fa_fr {t t' : XT} {k : Nat} (h : hc_fa t k) (e2 : t'.2.2.1 2 k = t.2.2.1 2 k) (e3 : t'.2.2.1 3 k = t.2.2.1 3 k) (e0 : t'.2.2.2 0 k = t.2.2.2 0 k) : hc_fa t' k := by
  obtain ⟨s, d, g, a1, a2, a3, a4, a5, a6⟩ := h
  exact ⟨s, d, g, a1, a2, e2.trans a3, e3.trans a4, a5, fun f hf => a6 f (by rw [← e0]; exact hf)⟩
theorem hc_add_go {z : Int32} {m s d : Nat} {lj : Nat → Int64} {B : Nat → Nat → Int32} {Q : XT → Prop} (hm : m < 60) (hs : s < 256) (hd : d < 5) (hsd : nb 8 s = d + 1) (hQ : ∀ t', hx_inv t' z (m + 1) → hc_b t' (m + 1) → t'.2.2.1 = B → Q t') :
    ∀ (e l K : Nat) (t : XT) (li : Nat → Int32), l + e = 8 → 3 * e + 10 ≤ K → hx_inv t z m → (∀ k, k < m → hc_fa t k) → hc_of t (m + 1) → (∀ k f, m + 1 ≤ k → k < 64 → hb (t.2.2.2 0 k) f = false) → (∀ a, a < 256 → a = s ∨ t.2.2.1 4 a = -1 ∨ ∃ f, f < m ∧ t.2.2.1 4 a = nI f) → t.2.2.1 4 s = nI m → t.2.2.1 2 m = nI s → t.2.2.1 3 m = nI d → (∀ f, hb (t.2.2.2 0 m) f = true → f < m ∧ ∃ l', l' < l ∧ s.testBit l' = true ∧ (t.2.2.1 4 (nI s &&& ((1 <<< (nI l' &&& 31)) ^^^ (-1))).toNatClampNeg).toNatClampNeg = f) → t.2.2.1 = B → li 1 = nI s → li 3 = nI l → wpX9_add K 1 t li lj Q := by
  intro e
  induction e with
  | zero =>
    intro l K t li he hK hI hA hB hZ hN hn h2 h3 hF eB e1 e3
    obtain ⟨K, rfl⟩ : ∃ K', K = K' + 1 := ⟨K - 1, by omega⟩
    obtain rfl : l = 8 := by omega
    show wbX9_add_1 (wpX9_add K) K t li lj Q
    refine ⟨fun _ v9 e9 t10 e10 => ?_, fun x => absurd (show nI 8 ≤ li 3 by rw [e3]; exact nI_le (by omega) (by omega)) x⟩
    have hI' : hx_inv t10 z (m + 1) := by
      obtain ⟨a1, a2, a3, a4, a5, a6, a7, a8, a9, a10, a11⟩ := hI
      have e9 : v9 = nI (m + 1) := by rw [e9, a2]; exact nI_1 m
      subst e10
      exact ⟨a1, e9, by omega, a4, a5, a6, a7, a8, a9, a10, a11⟩
    refine hQ t10 hI' ⟨fun k hk => ?_, ?_, ?_, fun a ha => ?_⟩ (by rw [e10]; exact eB)
    · by_cases q : k = m
      · subst q
        refine ⟨s, d, fun l' => (t.2.2.1 4 (nI s &&& ((1 <<< (nI l' &&& 31)) ^^^ (-1))).toNatClampNeg).toNatClampNeg, hs, hd, ?_, ?_, hsd, fun f hf => ?_⟩
        · rw [e10]; exact h2
        · rw [e10]; exact h3
        · rw [e10] at hf
          exact hF f hf
      · exact hc_fa_fr (hA k (by omega)) (by rw [e10]; rfl) (by rw [e10]; rfl) (by rw [e10]; rfl)
    · rw [e10]; exact hB
    · rw [e10]; exact hZ
    · rw [e10]
      rcases hN a ha with q | q | ⟨f, hf, q⟩
      · exact Or.inr ⟨m, by omega, by rw [q]; exact hn⟩
      · exact Or.inl q
      · exact Or.inr ⟨f, by omega, q⟩
  | succ e ih =>
    intro l K t li he hK hI hA hB hZ hN hn h2 h3 hF eB e1 e3
    obtain ⟨K, rfl⟩ : ∃ K', K = K' + 3 := ⟨K - 3, by omega⟩
    have cm : (nI m).toNatClampNeg = m := nI_clamp (by omega)
    have three : ∀ (K2 : Nat) (t' : XT) (li' : Nat → Int32), K + 1 ≤ K2 → hx_inv t' z m → (∀ k, k < m → hc_fa t' k) → hc_of t' (m + 1) → (∀ k f, m + 1 ≤ k → k < 64 → hb (t'.2.2.2 0 k) f = false) → t'.2.2.1 = t.2.2.1 → (∀ f, hb (t'.2.2.2 0 m) f = true → f < m ∧ ∃ l', l' < l + 1 ∧ s.testBit l' = true ∧ (t.2.2.1 4 (nI s &&& ((1 <<< (nI l' &&& 31)) ^^^ (-1))).toNatClampNeg).toNatClampNeg = f) → li' 1 = nI s → li' 3 = nI l → wpX9_add K2 3 t' li' lj Q := by
      intro K2 t' li' h hI' b1 b2 b3 b4 b5 b6 b7
      obtain ⟨K2, rfl⟩ : ∃ K', K2 = K' + 1 := ⟨K2 - 1, by omega⟩
      show wbX9_add_3 (wpX9_add K2) K2 t' li' lj Q
      intro v ev
      exact ih (l + 1) K2 t' _ (by omega) (by omega) hI' b1 b2 b3 (by rw [b4]; exact hN) (by rw [b4]; exact hn) (by rw [b4]; exact h2) (by rw [b4]; exact h3) (by rw [b4]; exact b5) (b4.trans eB) b6 (by show v = _; rw [ev, b7]; exact hs_inc l)
    have keepF : ∀ f, hb (t.2.2.2 0 m) f = true → f < m ∧ ∃ l', l' < l + 1 ∧ s.testBit l' = true ∧ (t.2.2.1 4 (nI s &&& ((1 <<< (nI l' &&& 31)) ^^^ (-1))).toNatClampNeg).toNatClampNeg = f := by
      intro f hf
      obtain ⟨p, l', q1, q2, q3⟩ := hF f hf
      exact ⟨p, l', by omega, q2, q3⟩
    have none : ∀ (K2 : Nat) (li' : Nat → Int32), K + 2 ≤ K2 → li' 100 = -1 → li' 1 = nI s → li' 3 = nI l → wpX9_add K2 2 t li' lj Q := by
      intro K2 li' h b0 b1 b3
      obtain ⟨K2, rfl⟩ : ∃ K', K2 = K' + 1 := ⟨K2 - 1, by omega⟩
      show wbX9_add_2 (wpX9_add K2) K2 t li' lj Q
      exact ⟨fun _ => three K2 t _ (by omega) hI hA hB hZ rfl keepF b1 b3, fun x => absurd b0 x⟩
    show wbX9_add_1 (wpX9_add (K + 2)) (K + 2) t li lj Q
    unfold wbX9_add_1
    rw [e1, e3]
    refine ⟨fun x => ?_, fun _ v11 f11 v12 f12 v13 f13 => ⟨fun _ => none _ _ (by omega) rfl e1 e3, fun ne => ?_⟩⟩
    · exfalso
      have x : nI 8 ≤ nI l := x
      have := (nI_leI (a := 8) (b := l) (by omega) (by omega)).mp x
      omega
    · have f13' : v13 = nI s &&& ((1 <<< (nI l &&& 31)) ^^^ (-1)) := by rw [f13, f12, f11]
      have tb : s.testBit l = true := Classical.byContradiction (fun q => ne (by rw [f13']; exact (hc_cl (by omega) hs).mpr q))
      obtain ⟨j, hj, ej⟩ := hz_and255 hs ((1 <<< (nI l &&& 31)) ^^^ (-1))
      have g13 : v13 = nI j := f13'.trans ej
      have njs : j ≠ s := fun q => ne (by rw [g13, q])
      subst g13
      refine ⟨vp_in_nI hj (by decide), fun v15 e15 => ?_⟩
      rw [nI_clamp (by omega)] at e15
      rcases hN j hj with q | q | ⟨f0, hf0, q⟩
      · exact absurd q njs
      · exact none _ _ (by omega) (by show v15 = _; rw [e15, q]) e1 e3
      · have e15 : v15 = nI f0 := e15.trans q
        subst e15
        show wbX9_add_2 (wpX9_add (K + 1)) (K + 1) t _ lj Q
        have hsz : vp_in (t.1 4) 64 := by rw [hI.2.1]; exact vp_in_nI (by omega) (by decide)
        have fin : vp_in (nI f0) 64 := vp_in_nI (by omega) (by decide)
        refine ⟨fun z0 => ?_, fun _ => ⟨hsz, fun v17 e17 => hw_bit (k := f0) (by omega) (by omega) (fun v18 e18 v19 e19 => ⟨hsz, fun t20 e20 => ⟨fin, fun v21 e21 => hz_bit (by omega) (fun v22 v23 e23 => ⟨fin, fun t24 e24 => ?_⟩)⟩⟩)⟩⟩
        · exfalso
          have z0 : nI f0 = -1 := z0
          have w : (nI f0).toInt = (-1 : Int32).toInt := congrArg Int32.toInt z0
          rw [nI_toInt (by omega)] at w
          have w : (f0 : Int) = -1 := w
          omega
        · rw [hI.2.1, cm] at e17 e20
          have r0 : ∀ k, k ≠ m → t24.2.2.2 0 k = t.2.2.2 0 k := by
            intro k hk
            rw [e24, e20]
            exact if_neg hk
          have rm : t24.2.2.2 0 m = v19 := by
            rw [e24, e20]
            exact if_pos rfl
          refine three _ t24 _ (by omega) (by rw [e24, e20]; exact hx_same hI rfl rfl) (fun k hk => hc_fa_fr (hA k hk) (by rw [e24, e20]; rfl) (by rw [e24, e20]; rfl) (r0 k (by omega))) (by rw [e24, e20]; exact hB) (fun k f hk1 hk2 => by rw [r0 k (by omega)]; exact hZ k f hk1 hk2) (by rw [e24, e20]; rfl) (fun f hf => ?_) e1 e3
          rw [rm, e19, hb_or, e17] at hf
          cases c : hb (t.2.2.2 0 m) f with
          | true => exact keepF f c
          | false =>
            rw [c, Bool.false_or, hb_one e18] at hf
            have e : f0 = f := of_decide_eq_true hf
            subst e
            refine ⟨hf0, l, by omega, tb, ?_⟩
            rw [ej, nI_clamp (by omega), q, nI_clamp (by omega)]
