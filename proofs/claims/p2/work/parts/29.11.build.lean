/-! ===== the class's SHAPE, exactly: one SIMPLEX more ===== -/
def hnc (s l : Nat) : Nat := (nI s &&& ((1 <<< (nI l &&& 31)) ^^^ (-1))).toNatClampNeg
def hnR (N : Nat → Int32) (s l f : Nat) : Prop := f < 64 ∧ ∃ l', l' < l ∧ s.testBit l' = true ∧ N (hnc s l') = nI f
theorem hnR_s {N : Nat → Int32} {s l f : Nat} : hnR N s (l + 1) f ↔ (hnR N s l f ∨ (f < 64 ∧ s.testBit l = true ∧ N (hnc s l) = nI f)) := by
  refine ⟨fun h => ?_, fun h => ?_⟩
  · obtain ⟨f64, l', h1, h2, h3⟩ := h
    by_cases x : l' = l
    · subst x; exact Or.inr ⟨f64, h2, h3⟩
    · exact Or.inl ⟨f64, l', by omega, h2, h3⟩
  · rcases h with ⟨f64, l', h1, h2, h3⟩ | ⟨f64, h2, h3⟩
    · exact ⟨f64, l', by omega, h2, h3⟩
    · exact ⟨f64, l, by omega, h2, h3⟩
def hb2 (u : XT) (F G : Nat → Int64) : XT := sB (sB u 0 F) 1 G
theorem hb2_0 (u : XT) (F F' G : Nat → Int64) : sB (hb2 u F G) 0 F' = hb2 u F' G := by
  unfold hb2 sB uI
  refine Prod.ext rfl (Prod.ext rfl (Prod.ext rfl ?_))
  funext j
  show cond (Nat.beq j 0) F' (cond (Nat.beq j 1) G (cond (Nat.beq j 0) F (u.2.2.2 j))) = cond (Nat.beq j 1) G (cond (Nat.beq j 0) F' (u.2.2.2 j))
  cases h : Nat.beq j 0 with
  | false => rfl
  | true => rw [Nat.eq_of_beq_eq_true h]; rfl
theorem hb2_1 (u : XT) (F G G' : Nat → Int64) : sB (hb2 u F G) 1 G' = hb2 u F G' := by
  unfold hb2 sB uI
  refine Prod.ext rfl (Prod.ext rfl (Prod.ext rfl ?_))
  funext j
  show cond (Nat.beq j 1) G' (cond (Nat.beq j 1) G (cond (Nat.beq j 0) F (u.2.2.2 j))) = cond (Nat.beq j 1) G' (cond (Nat.beq j 0) F (u.2.2.2 j))
  cases Nat.beq j 1 <;> rfl
def hce_i (N : Nat → Int32) (s m : Nat) (F0 G0 : Nat → Int64) (l : Nat) (F G : Nat → Int64) : Prop :=
  (∀ f, hb (F m) f = true ↔ hnR N s l f) ∧ (∀ k, k ≠ m → F k = F0 k) ∧ ∀ f k, hb (G f) k = true ↔ (hb (G0 f) k = true ∨ (k = m ∧ hnR N s l f))
theorem hce_i_no {N : Nat → Int32} {s m : Nat} {F0 G0 F G : Nat → Int64} {l : Nat} (h : hce_i N s m F0 G0 l F G) (no : ¬ s.testBit l = true ∨ N (hnc s l) = -1) : hce_i N s m F0 G0 (l + 1) F G := by
  have e : ∀ f, hnR N s (l + 1) f ↔ hnR N s l f := by
    intro f
    rw [hnR_s]
    refine ⟨fun w => w.elim id (fun w => ?_), Or.inl⟩
    rcases no with q | q
    · exact absurd w.2.1 q
    · exact absurd (w.2.2.symm.trans q) (hs_nI_neg (by omega))
  exact ⟨fun f => (h.1 f).trans (e f).symm, h.2.1, fun f k => by rw [e f]; exact h.2.2 f k⟩
theorem hce_add_go {u : XT} {m s : Nat} {N : Nat → Int32} {F0 G0 : Nat → Int64} {lj : Nat → Int64} {Q : XT → Prop} (hm : m < 60) (hs : s < 256) (hu : u.1 4 = nI m) (hN : u.2.2.1 4 = N) (hp : ∀ a, a < 256 → a ≠ s → N a = -1 ∨ ∃ f, f < 64 ∧ N a = nI f)
    (hQ : ∀ F G, hce_i N s m F0 G0 8 F G → Q (sI (hb2 u F G) 4 (nI (m + 1)))) :
    ∀ (e l K : Nat) (F G : Nat → Int64) (li : Nat → Int32), l + e = 8 → 3 * e + 10 ≤ K → hce_i N s m F0 G0 l F G → li 1 = nI s → li 3 = nI l → wpX9_add K 1 (hb2 u F G) li lj Q := by
  intro e
  induction e with
  | zero =>
    intro l K F G li he hK hI e1 e3
    obtain ⟨K, rfl⟩ : ∃ K', K = K' + 1 := ⟨K - 1, by omega⟩
    obtain rfl : l = 8 := by omega
    show wbX9_add_1 (wpX9_add K) K (hb2 u F G) li lj Q
    refine ⟨fun _ v9 e9 t10 e10 => ?_, fun x => absurd (show nI 8 ≤ li 3 by rw [e3]; exact nI_le (by omega) (by omega)) x⟩
    have e9 : v9 = nI (m + 1) := by
      rw [e9]
      show u.1 4 + 1 = _
      rw [hu]; exact nI_1 m
    rw [e10, e9]
    exact hQ F G hI
  | succ e ih =>
    intro l K F G li he hK hI e1 e3
    obtain ⟨K, rfl⟩ : ∃ K', K = K' + 3 := ⟨K - 3, by omega⟩
    have cm : (nI m).toNatClampNeg = m := nI_clamp (by omega)
    have three : ∀ (K2 : Nat) (F' G' : Nat → Int64) (li' : Nat → Int32), K + 1 ≤ K2 → hce_i N s m F0 G0 (l + 1) F' G' → li' 1 = nI s → li' 3 = nI l → wpX9_add K2 3 (hb2 u F' G') li' lj Q := by
      intro K2 F' G' li' h hI' b6 b7
      obtain ⟨K2, rfl⟩ : ∃ K', K2 = K' + 1 := ⟨K2 - 1, by omega⟩
      show wbX9_add_3 (wpX9_add K2) K2 (hb2 u F' G') li' lj Q
      intro v ev
      exact ih (l + 1) K2 F' G' _ (by omega) (by omega) hI' b6 (by show v = _; rw [ev, b7]; exact hs_inc l)
    have none : ∀ (K2 : Nat) (li' : Nat → Int32), K + 2 ≤ K2 → (¬ s.testBit l = true ∨ N (hnc s l) = -1) → li' 100 = -1 → li' 1 = nI s → li' 3 = nI l → wpX9_add K2 2 (hb2 u F G) li' lj Q := by
      intro K2 li' h no b0 b1 b3
      obtain ⟨K2, rfl⟩ : ∃ K', K2 = K' + 1 := ⟨K2 - 1, by omega⟩
      show wbX9_add_2 (wpX9_add K2) K2 (hb2 u F G) li' lj Q
      exact ⟨fun _ => three K2 F G _ (by omega) (hce_i_no hI no) b1 b3, fun x => absurd b0 x⟩
    show wbX9_add_1 (wpX9_add (K + 2)) (K + 2) (hb2 u F G) li lj Q
    unfold wbX9_add_1
    rw [e1, e3]
    refine ⟨fun x => ?_, fun _ v11 f11 v12 f12 v13 f13 => ⟨fun eq => none _ _ (by omega) (Or.inl ?_) rfl e1 e3, fun ne => ?_⟩⟩
    · exfalso
      have x : nI 8 ≤ nI l := x
      have := (nI_leI (a := 8) (b := l) (by omega) (by omega)).mp x
      omega
    · have f13' : v13 = nI s &&& ((1 <<< (nI l &&& 31)) ^^^ (-1)) := by rw [f13, f12, f11]
      exact (hc_cl (by omega) hs).mp (f13'.symm.trans eq)
    · have f13' : v13 = nI s &&& ((1 <<< (nI l &&& 31)) ^^^ (-1)) := by rw [f13, f12, f11]
      have tb : s.testBit l = true := Classical.byContradiction (fun q => ne (by rw [f13']; exact (hc_cl (by omega) hs).mpr q))
      obtain ⟨j, hj, ej⟩ := hz_and255 hs ((1 <<< (nI l &&& 31)) ^^^ (-1))
      have g13 : v13 = nI j := f13'.trans ej
      have njs : j ≠ s := fun q => ne (by rw [g13, q])
      have cj : (nI j).toNatClampNeg = j := nI_clamp (by omega)
      have hc : hnc s l = j := by unfold hnc; rw [ej]; exact cj
      subst g13
      refine ⟨vp_in_nI hj (by decide), fun v15 e15 => ?_⟩
      rw [cj] at e15
      have e15 : v15 = N j := by rw [e15, ← hN]; rfl
      rcases hp j hj njs with q | ⟨f0, hf0, q⟩
      · exact none _ _ (by omega) (Or.inr (by rw [hc]; exact q)) (by show v15 = _; rw [e15, q]) e1 e3
      · have e15 : v15 = nI f0 := e15.trans q
        subst e15
        have cf : (nI f0).toNatClampNeg = f0 := nI_clamp (by omega)
        show wbX9_add_2 (wpX9_add (K + 1)) (K + 1) (hb2 u F G) _ lj Q
        have hsz : vp_in ((hb2 u F G).1 4) 64 := by
          show vp_in (u.1 4) 64
          rw [hu]; exact vp_in_nI (by omega) (by decide)
        have fin : vp_in (nI f0) 64 := vp_in_nI (by omega) (by decide)
        refine ⟨fun z0 => absurd z0 (hs_nI_neg (by omega)), fun _ => ⟨hsz, fun v17 e17 => hw_bit (k := f0) (by omega) (by omega) (fun v18 e18 v19 e19 => ⟨hsz, fun t20 e20 => ⟨fin, fun v21 e21 => ?_⟩⟩)⟩⟩
        have e4 : (hb2 u F G).1 4 = nI m := hu
        have r0 : (hb2 u F G).2.2.2 0 = F := rfl
        rw [e4, cm] at e17 e20
        rw [r0] at e17 e20
        have e20 : t20 = hb2 u (vp_updL F m v19) G := e20.trans (hb2_0 u F _ G)
        have r1 : t20.2.2.2 1 = G := by rw [e20]; rfl
        have g4 : t20.1 4 = nI m := by rw [e20]; exact hu
        rw [g4]
        refine hw_bit (k := m) (by omega) (by omega) (fun v22 e22 v23 e23 => ⟨fin, fun t24 e24 => ?_⟩)
        have e21 : v21 = t20.2.2.2 1 (nI f0).toNatClampNeg := e21
        rw [r1, cf] at e21
        have e24 : t24 = sB t20 1 (vp_updL (t20.2.2.2 1) (nI f0).toNatClampNeg v23) := e24
        rw [r1, cf, e20] at e24
        have e24 : t24 = hb2 u (vp_updL F m v19) (vp_updL G f0 v23) := e24.trans (hb2_1 u _ G _)
        rw [e24]
        have Nj : N (hnc s l) = nI f0 := by rw [hc]; exact q
        refine three _ _ _ _ (by omega) ⟨fun f => ?_, fun k hk => ?_, fun f k => ?_⟩ e1 e3
        · rw [show vp_updL F m v19 m = v19 from if_pos rfl, e19, hb_or, e17, hb_one e18, hnR_s, Bool.or_eq_true, hI.1 f]
          refine or_congr Iff.rfl ⟨fun w => ?_, fun w => ?_⟩
          · have w : f0 = f := of_decide_eq_true w
            subst w; exact ⟨hf0, tb, Nj⟩
          · exact decide_eq_true ((nI_eq (by omega) (by omega)).mp (Nj.symm.trans w.2.2))
        · exact (if_neg hk).trans (hI.2.1 k hk)
        · rw [hnR_s]
          by_cases z : f = f0
          · rw [show vp_updL G f0 v23 f = v23 from if_pos z, e23, hb_or, e21, ← z, hb_one e22, Bool.or_eq_true, hI.2.2 f k]
            refine ⟨fun w => ?_, fun w => ?_⟩
            · rcases w with w | w
              · exact w.elim Or.inl (fun w => Or.inr ⟨w.1, Or.inl w.2⟩)
              · have w : m = k := of_decide_eq_true w
                exact Or.inr ⟨w.symm, Or.inr ⟨by omega, tb, by rw [z]; exact Nj⟩⟩
            · rcases w with w | ⟨w1, w2⟩
              · exact Or.inl (Or.inl w)
              · exact Or.inr (decide_eq_true w1.symm)
          · rw [show vp_updL G f0 v23 f = G f from if_neg z, hI.2.2 f k]
            refine or_congr Iff.rfl (and_congr Iff.rfl ⟨Or.inl, fun w => w.elim id (fun w => ?_)⟩)
            exact absurd ((nI_eq (by omega) (by omega)).mp (w.2.2.symm.trans Nj)) z
