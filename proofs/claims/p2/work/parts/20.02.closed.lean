/-! ===== the class: a SIMPLEX of DIM 4 comes behind 25 of DIM 2 and less ===== -/
def h5_sub (s a e : Nat) : Bool := decide (0 < a) && (a &&& s == a) && (nb 8 a == e)
theorem h5_25 : (List.range 256).all (fun s => !(nb 8 s == 5) || (cp (fun a => h5_sub s a 1) 256 + cp (fun a => h5_sub s a 2) 256 + cp (fun a => h5_sub s a 3) 256 == 25)) = true := by decide +kernel
def h5_w (R : Nat → Int32) (e a : Nat) : Bool := decide (0 < a) && (decide (R a ≠ 0) && (nb 8 a == e))
def h5_S (R : Nat → Int32) : Nat → Nat | 0 => 0 | d + 1 => h5_S R d + cp (h5_w R (d + 1)) 256
theorem cp_sub {P R : Nat → Bool} {m : Nat} (h : ∀ k, k < m → P k = true → R k = true) : cp P m ≤ cp R m := by
  induction m with
  | zero => exact Nat.le_refl _
  | succ m ih =>
    have i := ih (fun k hk => h k (by omega))
    have j := h m (by omega)
    show cp P m + (if P m = true then 1 else 0) ≤ cp R m + (if R m = true then 1 else 0)
    by_cases q : P m = true
    · rw [if_pos q, if_pos (j q)]; omega
    · rw [if_neg q]; omega
theorem h5_ge {R : Nat → Int32} {s : Nat} (hc : hx_cl R) (hs : s < 256) (hn : nb 8 s = 5) (hr : R s ≠ 0) : 25 ≤ h5_S R 3 := by
  have w : ∀ e, cp (fun a => h5_sub s a e) 256 ≤ cp (h5_w R e) 256 := fun e => cp_sub (fun a _ ha => by
    unfold h5_sub at ha
    rw [Bool.and_eq_true, Bool.and_eq_true] at ha
    have a0 : 0 < a := of_decide_eq_true ha.1.1
    have a1 : a &&& s = a := eq_of_beq ha.1.2
    unfold h5_w
    rw [Bool.and_eq_true, Bool.and_eq_true]
    exact ⟨ha.1.1, decide_eq_true (hc s a hs a0 a1 hr), ha.2⟩)
  have q := List.all_eq_true.mp h5_25 s (List.mem_range.mpr hs)
  rw [hn] at q
  have q : (cp (fun a => h5_sub s a 1) 256 + cp (fun a => h5_sub s a 2) 256 + cp (fun a => h5_sub s a 3) 256 == 25) = true := q
  have q := eq_of_beq q
  have w1 := w 1
  have w2 := w 2
  have w3 := w 3
  show 25 ≤ 0 + cp (h5_w R 1) 256 + cp (h5_w R 2) 256 + cp (h5_w R 3) 256
  omega
/-- while it is laid, in DIM d: m are there -/
def h5_b (t : XT) (R : Nat → Int32) (m d : Nat) : Prop := t.2.2.1 1 = R ∧ (d ≤ 2 → ∀ k, k < m → ∃ e, e ≤ 2 ∧ t.2.2.1 3 k = nI e) ∧ (3 ≤ d → ∃ m2, m2 ≤ m ∧ (∀ k, k < m → k < m2 → ∃ e, e ≤ 2 ∧ t.2.2.1 3 k = nI e) ∧ (m2 = 60 ∨ h5_S R 3 ≤ m2) ∧ (25 ≤ m2 ∨ ∀ k, k < m → t.2.2.1 3 k ≠ nI 4))
theorem h5_add {t t' : XT} {R : Nat → Int32} {m d s : Nat} (hB : h5_b t R m d) (hc : hx_cl R) (hm : m < 60) (hs : s < 256) (hd : d < 5) (hsd : nb 8 s = d + 1) (hr : R s ≠ 0) (e1 : t'.2.2.1 1 = t.2.2.1 1) (e3 : t'.2.2.1 3 = upd (t.2.2.1 3) m (nI d)) : h5_b t' R (m + 1) d := by
  obtain ⟨b1, b2, b3⟩ := hB
  have u : ∀ k, t'.2.2.1 3 k = if k = m then nI d else t.2.2.1 3 k := fun k => by rw [e3]; rfl
  refine ⟨e1.trans b1, fun h k hk => ?_, fun h => ?_⟩
  · by_cases q : k = m
    · exact ⟨d, h, by rw [u k, if_pos q]⟩
    · obtain ⟨e, e2, e4⟩ := b2 h k (by omega)
      exact ⟨e, e2, by rw [u k, if_neg q]; exact e4⟩
  · obtain ⟨m2, c1, c2, c3, c4⟩ := b3 h
    refine ⟨m2, by omega, fun k hk k2 => ?_, c3, ?_⟩
    · obtain ⟨e, e2, e4⟩ := c2 k (by omega) k2
      exact ⟨e, e2, by rw [u k, if_neg (by omega)]; exact e4⟩
    · by_cases q : d = 4
      · subst q
        have g := h5_ge hc hs hsd hr
        exact Or.inl (by omega)
      · rcases c4 with c4 | c4
        · exact Or.inl c4
        · refine Or.inr (fun k hk e => ?_)
          rw [u k] at e
          by_cases x : k = m
          · rw [if_pos x] at e
            exact q ((nI_eq (by omega) (by omega)).mp e)
          · rw [if_neg x] at e
            exact c4 k (by omega) e
theorem h5_in {z : Int32} {d0 : Nat} {R : Nat → Int32} {lj : Nat → Int64} {Q : XT → Prop} (hR : hx_cl R) (hd0 : d0 < 5) (M : Nat) (hM : 200 ≤ M)
    (cont : ∀ (K' m : Nat) (t' : XT) (li' : Nat → Int32), M ≤ K' → hx_inv t' z m → hc_b t' m → h5_b t' R m d0 → (m = 60 ∨ h5_S R (d0 + 1) ≤ m) → li' 2 = nI d0 → wpX9_build_c13 K' 4 t' li' lj Q) :
    ∀ (d i m K : Nat) (t : XT) (li : Nat → Int32), i + d = 256 → 2 * d + M + 5 ≤ K → hx_inv t z m → hc_b t m → h5_b t R m d0 → (m = 60 ∨ h5_S R d0 + cp (h5_w R (d0 + 1)) i ≤ m) → 0 < i → li 2 = nI d0 → li 3 = nI i → wpX9_build_c13 K 2 t li lj Q := by
  intro d
  induction d with
  | zero =>
    intro i m K t li hd hK hI hB h5 hc hi0 e2 e3
    obtain ⟨K, rfl⟩ : ∃ K', K = K' + 1 := ⟨K - 1, by omega⟩
    obtain rfl : i = 256 := by omega
    show wbX9_build_c13_2 (wpX9_build_c13 K) K t li lj Q
    exact ⟨fun _ => cont K m t li (by omega) hI hB h5 hc e2, fun x => absurd (show nI 256 ≤ li 3 by rw [e3]; exact nI_le (by omega) (by omega)) x⟩
  | succ d ih =>
    intro i m K t li hd hK hI hB h5 hc hi0 e2 e3
    obtain ⟨K, rfl⟩ : ∃ K', K = K' + 2 := ⟨K - 2, by omega⟩
    have nx : ∀ (m' : Nat) (t' : XT), hx_inv t' z m' → hc_b t' m' → h5_b t' R m' d0 → (m' = 60 ∨ h5_S R d0 + cp (h5_w R (d0 + 1)) (i + 1) ≤ m') → wpX9_build_c13 (K + 1) 3 t' li lj Q := by
      intro m' t' hI' hB' h5' hc'
      show wbX9_build_c13_3 (wpX9_build_c13 K) K t' li lj Q
      intro v e
      exact ih (i + 1) m' K t' _ (by omega) (by omega) hI' hB' h5' hc' (by omega) e2 (by show v = _; rw [e, e3]; exact hs_inc i)
    have m60 := hI.2.2.1
    have no : h5_w R (d0 + 1) i = false → cp (h5_w R (d0 + 1)) (i + 1) = cp (h5_w R (d0 + 1)) i := by
      intro h
      show cp _ i + (if h5_w R (d0 + 1) i = true then 1 else 0) = _
      rw [h]; rfl
    have yes : cp (h5_w R (d0 + 1)) (i + 1) ≤ cp (h5_w R (d0 + 1)) i + 1 := by
      show cp _ i + (if h5_w R (d0 + 1) i = true then 1 else 0) ≤ _
      by_cases q : h5_w R (d0 + 1) i = true
      · rw [if_pos q]; omega
      · rw [if_neg q]; omega
    have sk : h5_w R (d0 + 1) i = false → wpX9_build_c13 (K + 1) 3 t li lj Q := fun h => nx m t hI hB h5 (by rw [no h]; exact hc)
    have ci : (nI i).toNatClampNeg = i := nI_clamp (by omega)
    show wbX9_build_c13_2 (wpX9_build_c13 (K + 1)) (K + 1) t li lj Q
    unfold wbX9_build_c13_2
    rw [e2, e3, hI.2.1]
    have hin := vp_in_nI (n := i) (N := 256) (by omega) (by decide)
    refine ⟨fun x => absurd (show nI 256 ≤ nI i from x) (Int32.not_le.mpr (nI_lt (by omega) (by omega))), fun _ => ⟨fun x => absurd (show nI 256 ≤ nI i from x) (Int32.not_le.mpr (nI_lt (by omega) (by omega))), fun _ => ⟨hin, fun v9 e9 => ⟨fun z9 => sk ?_, fun n9 => hm_bitCount (by omega) (fun v12 f12 => ⟨fun ne => sk ?_, fun q => ⟨fun ge60 => nx m t hI hB h5 (Or.inl ?_), fun lt => ?_⟩⟩)⟩⟩⟩⟩
    · have e9 : v9 = R i := by rw [← h5.1, e9, ci]
      unfold h5_w
      rw [show decide (R i ≠ 0) = false from decide_eq_false (fun q => q (e9.symm.trans z9)), Bool.false_and, Bool.and_false]
    · have f12 : v12 = nI (d0 + 1) := f12.trans (nI_1 d0)
      have nn : nb 8 i ≠ d0 + 1 := fun q => ne (by rw [f12, ← q]; exact hc_bc i (by omega))
      unfold h5_w
      rw [show (nb 8 i == d0 + 1) = false from beq_eq_false_iff_ne.mpr nn, Bool.and_false, Bool.and_false]
    · have := (nI_leI (a := 60) (b := m) (by omega) (by omega)).mp ge60
      omega
    · have lt : ¬ nI 60 ≤ nI m := lt
      have hm : m < 60 := Nat.lt_of_not_le (fun q => lt (nI_le q (by omega)))
      have hn8 := hc_nb8 i (by omega)
      have f12 : v12 = nI (d0 + 1) := f12.trans (nI_1 d0)
      have hsd : nb 8 i = d0 + 1 := by
        have q : nI (nb 8 i) = nI (d0 + 1) := by rw [← hc_bc i (by omega)]; exact q.trans f12
        exact (nI_eq (by omega) (by omega)).mp q
      have hr : R i ≠ 0 := fun q => n9 (by rw [e9, ci, h5.1]; exact q)
      exact hc_add hI hB hm (by omega) hd0 hsd (by omega) (fun t15 h15 b15 g1 g3 => nx (m + 1) t15 h15 b15 (h5_add h5 hR hm (by omega) hd0 hsd hr g1 g3) (Or.inr (by
        rcases hc with c | c
        · omega
        · omega)))
theorem h5_go {z : Int32} {R : Nat → Int32} {lj : Nat → Int64} {Q : XT → Prop} (hR : hx_cl R) (hQ : ∀ m t', hx_inv t' z m → hc_b t' m → h5_b t' R m 4 → Q t') :
    ∀ (d i m K : Nat) (t : XT) (li : Nat → Int32), i + d = 5 → 700 * d + 300 ≤ K → hx_inv t z m → hc_b t m → (i = 5 → h5_b t R m 4) → (i < 5 → h5_b t R m i) → (i < 5 → m = 60 ∨ h5_S R i ≤ m) → li 2 = nI i → wpX9_build_c13 K 1 t li lj Q := by
  intro d
  induction d with
  | zero =>
    intro i m K t li hd hK hI hB h5 h4 hc e2
    obtain ⟨K, rfl⟩ : ∃ K', K = K' + 1 := ⟨K - 1, by omega⟩
    obtain rfl : i = 5 := by omega
    show wbX9_build_c13_1 (wpX9_build_c13 K) K t li lj Q
    exact ⟨fun _ => hQ m t hI hB (h5 rfl), fun x => absurd (show nI 5 ≤ li 2 by rw [e2]; exact nI_le (by omega) (by omega)) x⟩
  | succ d ih =>
    intro i m K t li hd hK hI hB h5 h4 hc e2
    obtain ⟨K, rfl⟩ : ∃ K', K = K' + 1 := ⟨K - 1, by omega⟩
    obtain ⟨M, hM⟩ : ∃ M, M = 700 * d + 301 := ⟨_, rfl⟩
    show wbX9_build_c13_1 (wpX9_build_c13 K) K t li lj Q
    unfold wbX9_build_c13_1
    rw [e2]
    refine ⟨fun x => absurd (show nI 5 ≤ nI i from x) (Int32.not_le.mpr (nI_lt (by omega) (by omega))), fun _ => ?_⟩
    refine h5_in (d0 := i) hR (by omega) M (by omega) (fun K' m' t' li' h hI' hB' h5' hc' a2 => ?_) 255 1 m K t _ (by omega) (by omega) hI hB (h4 (by omega)) ?_ (by omega) e2 rfl
    · obtain ⟨K', rfl⟩ : ∃ K'', K' = K'' + 1 := ⟨K' - 1, by omega⟩
      show wbX9_build_c13_4 (wpX9_build_c13 K') K' t' li' lj Q
      intro v e
      refine ih (i + 1) m' K' t' _ (by omega) (by omega) hI' hB' (fun q => ?_) (fun q => ?_) (fun _ => hc') (by show v = _; rw [e, a2]; exact hs_inc i)
      · obtain rfl : i = 4 := by omega
        exact h5'
      · obtain ⟨b1, b2, b3⟩ := h5'
        refine ⟨b1, fun h => b2 (by omega), fun h => ?_⟩
        by_cases q2 : i = 2
        · subst q2
          refine ⟨m', Nat.le_refl _, fun k hk _ => b2 (by omega) k hk, hc', Or.inr (fun k hk e => ?_)⟩
          obtain ⟨e', l2, e4⟩ := b2 (by omega) k hk
          have := (nI_eq (by omega) (by omega)).mp (e.symm.trans e4)
          omega
        · exact b3 (by omega)
    · rcases hc (by omega) with c | c
      · exact Or.inl c
      · refine Or.inr ?_
        have z1 : cp (h5_w R (i + 1)) 1 = 0 := rfl
        omega
