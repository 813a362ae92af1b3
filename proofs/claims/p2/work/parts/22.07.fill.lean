/-! ===== the class: tables by INCIDENCES, filled exactly ===== -/
def hj_fr (t t' : XT) : Prop := t'.1 = t.1 ∧ t'.2.1 = t.2.1 ∧ t'.2.2.1 = t.2.2.1 ∧ ∀ r, r ≠ 3 → r ≠ 7 → t'.2.2.2 r = t.2.2.2 r
theorem hj_fr_r (t : XT) : hj_fr t t := ⟨rfl, rfl, rfl, fun _ _ _ => rfl⟩
theorem hj_fr_t {a b c : XT} (h1 : hj_fr a b) (h2 : hj_fr b c) : hj_fr a c := ⟨h2.1.trans h1.1, h2.2.1.trans h1.2.1, h2.2.2.1.trans h1.2.2.1, fun r x y => (h2.2.2.2 r x y).trans (h1.2.2.2 r x y)⟩
theorem hj_fr_f {a b : XT} (h : hf_fr a b) : hj_fr a b := ⟨h.1, h.2.1, h.2.2.1, fun r x _ => h.2.2.2 r x⟩
theorem hj_fr_7 (t : XT) (f : Nat → Int64) : hj_fr t (sB t 7 f) := ⟨rfl, rfl, rfl, fun _ _ x => uI_ne t.2.2.2 f x⟩
def hj_row (t : XT) (b : Nat) (v : Int64) (x : Nat) (V : Nat → Int) : Prop := ∀ i, i < 64 → hb v i = true → t.2.2.2 7 (x * b + cp (hb v) i) = Int64.ofInt (V i)
theorem hj_cell {r x b c y : Nat} (hc : c < b) (hy : y < b) (hne : r ≠ x) : r * b + c ≠ x * b + y := by
  intro e
  have b0 : 0 < b := by omega
  have e1 : (r * b + c) / b = (x * b + y) / b := by rw [e]
  rw [Nat.mul_comm r b, Nat.mul_comm x b, Nat.mul_add_div b0, Nat.mul_add_div b0, Nat.div_eq_of_lt hc, Nat.div_eq_of_lt hy] at e1
  omega
theorem hj_fr_go {t0 : XT} {m a b x k : Nat} {v : Int64} {V : Nat → Int} {Q : XT → Prop} (hm : m ≤ 60) (e4 : t0.1 4 = nI m) (hM : hx_ab t0 a b) (hx : x < a) (hv : ∀ i, m ≤ i → hb v i = false) (ebv : b = cp (hb v) 64) (hV : hf_v t0 V)
    (hQ : ∀ t', hj_fr t0 t' → (∀ r c, r ≠ x → c < b → t'.2.2.2 7 (r * b + c) = t0.2.2.2 7 (r * b + c)) → hj_row t' b v x V → Q t') :
    ∀ (d i K : Nat) (t : XT) (li : Nat → Int32) (lj : Nat → Int64), i + d = m → 4 * d + 20 ≤ K → hj_fr t0 t → t.2.2.2 3 = t0.2.2.2 3 → (∀ r c, r ≠ x → c < b → t.2.2.2 7 (r * b + c) = t0.2.2.2 7 (r * b + c)) → (∀ j, j < i → hb v j = true → t.2.2.2 7 (x * b + cp (hb v) j) = Int64.ofInt (V j)) → li 1 = nI x → li 2 = nI k → li 5 = 1 → li 6 = nI (cp (hb v) i) → li 7 = nI i → lj 3 = v → wpX0_fillRow K 1 t li lj Q := by
  intro d
  induction d with
  | zero =>
    intro i K t li lj hd hK hE h3 hR hc e1 e2 e5 e6 e7 ej
    obtain ⟨K, rfl⟩ : ∃ K', K = K' + 1 := ⟨K - 1, by omega⟩
    obtain rfl : i = m := by omega
    have et : t.1 4 = nI i := by rw [hE.1]; exact e4
    show wbX0_fillRow_1 (wpX0_fillRow K) K t li lj Q
    refine ⟨fun _ => hQ t hE hR (fun j hj bj => ?_), fun x => absurd (by rw [et, e7]; exact nI_le (by omega) (by omega)) x⟩
    refine hc j (Nat.lt_of_not_le (fun q => ?_)) bj
    rw [hv j q] at bj; exact absurd bj (by decide)
  | succ d ih =>
    intro i K t li lj hd hK hE h3 hR hc e1 e2 e5 e6 e7 ej
    obtain ⟨K, rfl⟩ : ∃ K', K = K' + 3 := ⟨K - 3, by omega⟩
    have three : ∀ (K2 : Nat) (t' : XT) (li' : Nat → Int32) (lj' : Nat → Int64), K + 1 ≤ K2 → hj_fr t0 t' → t'.2.2.2 3 = t0.2.2.2 3 → (∀ r c, r ≠ x → c < b → t'.2.2.2 7 (r * b + c) = t0.2.2.2 7 (r * b + c)) → (∀ j, j < i + 1 → hb v j = true → t'.2.2.2 7 (x * b + cp (hb v) j) = Int64.ofInt (V j)) → li' 1 = nI x → li' 2 = nI k → li' 5 = 1 → li' 6 = nI (cp (hb v) (i + 1)) → li' 7 = nI i → lj' 3 = v → wpX0_fillRow K2 3 t' li' lj' Q := by
      intro K2 t' li' lj' h b0 b1 b2 b3 b4 b5 b6 b7 b8 b9
      obtain ⟨K2, rfl⟩ : ∃ K', K2 = K' + 1 := ⟨K2 - 1, by omega⟩
      show wbX0_fillRow_3 (wpX0_fillRow K2) K2 t' li' lj' Q
      intro w e
      exact ih (i + 1) K2 t' _ _ (by omega) (by omega) b0 b1 b2 b3 b4 b5 b6 b7 (by show w = _; rw [e, b8]; exact hs_inc i) b9
    have et : t.1 4 = nI m := by rw [hE.1]; exact e4
    show wbX0_fillRow_1 (wpX0_fillRow (K + 2)) (K + 2) t li lj Q
    unfold wbX0_fillRow_1
    rw [et, e7, ej, e2]
    refine ⟨fun ge => ?_, fun _ => hw_isIn (by omega) (by omega) (fun bt => ⟨fun z => absurd z (by decide), fun _ => ⟨fun z => absurd (e5.symm.trans z) (by decide), fun _ => ⟨vp_in_nI (by omega) (by decide), fun v7 f7 => ?_⟩⟩⟩) (fun bf => ⟨fun _ => ?_, fun z => absurd rfl z⟩)⟩
    · have := (nI_leI (a := m) (b := i) (by omega) (by omega)).mp ge
      omega
    · have ci : cp (hb v) (i + 1) = cp (hb v) i + 1 := by
        show cp (hb v) i + (if hb v i = true then 1 else 0) = _
        rw [if_pos bt]
      have cb : cp (hb v) i < b := by
        have := cp_le (hb v) (show i + 1 ≤ 64 by omega)
        rw [← ebv, ci] at this
        omega
      have f7 : v7 = Int64.ofInt (V i) := by
        rw [f7, h3]
        exact (congrArg (t0.2.2.2 3) (nI_clamp (by omega))).trans (hV i (by omega))
      have hM' : hx_ab t a b := by
        obtain ⟨m1, m2, m3, m4, m5⟩ := hM
        exact ⟨m1, m2, m3, by rw [hE.1]; exact m4, by rw [hE.1]; exact m5⟩
      show wbX0_fillRow_2 (wpX0_fillRow (K + 1)) (K + 1) t _ _ Q
      show wqX5_put (K + 1) t (li 1) (li 6) v7 _
      rw [e1, e6]
      refine hc_put hM' hx cb (by omega) (fun v9 e9 => ?_)
      refine three (K + 1) _ _ _ (by omega) (hj_fr_t hE (hj_fr_7 t _)) h3 (fun r c hr hc' => ?_) (fun j hj bj => ?_) e1 e2 e5 (by show v9 = _; rw [e9, ci]; show li 6 + _ = _; rw [e6]; exact hs_inc _) e7 ej
      · show vp_updL (t.2.2.2 7) (x * b + cp (hb v) i) v7 (r * b + c) = _
        rw [show vp_updL (t.2.2.2 7) (x * b + cp (hb v) i) v7 (r * b + c) = t.2.2.2 7 (r * b + c) from if_neg (hj_cell hc' cb hr)]
        exact hR r c hr hc'
      · show vp_updL (t.2.2.2 7) (x * b + cp (hb v) i) v7 (x * b + cp (hb v) j) = _
        by_cases q : j = i
        · rw [q, show vp_updL (t.2.2.2 7) (x * b + cp (hb v) i) v7 (x * b + cp (hb v) i) = v7 from if_pos rfl]; exact f7
        · have l := cp_st (hb v) bj (show j < i by omega)
          rw [show vp_updL (t.2.2.2 7) (x * b + cp (hb v) i) v7 (x * b + cp (hb v) j) = t.2.2.2 7 (x * b + cp (hb v) j) from if_neg (by omega)]
          exact hc j (by omega) bj
    · have ci : cp (hb v) (i + 1) = cp (hb v) i := by
        show cp (hb v) i + (if hb v i = true then 1 else 0) = _
        rw [if_neg (by rw [bf]; decide)]; rfl
      refine three (K + 2) t _ _ (by omega) hE h3 hR (fun j hj bj => ?_) e1 e2 e5 (by rw [ci]; exact e6) e7 ej
      refine hc j ?_ bj
      rcases Nat.lt_or_ge j i with z | z
      · exact z
      · have : j = i := by omega
        rw [this, bf] at bj; exact absurd bj (by decide)
theorem hj_fillRow {t : XT} {m a b x k K : Nat} {v : Int64} {V : Nat → Int} {Q : XT → Prop} (hm : m ≤ 60) (e4 : t.1 4 = nI m) (hM : hx_ab t a b) (hx : x < a) (hv : ∀ i, m ≤ i → hb v i = false) (ebv : b = cp (hb v) 64) (hV : hf_v t V) (hK : 300 ≤ K)
    (hQ : ∀ t', hj_fr t t' → (∀ r c, r ≠ x → c < b → t'.2.2.2 7 (r * b + c) = t.2.2.2 7 (r * b + c)) → hj_row t' b v x V → Q t') : wqX0_fillRow K t (nI x) (nI k) v 1 Q := by
  obtain ⟨K, rfl⟩ : ∃ K', K = K' + 1 := ⟨K - 1, by omega⟩
  exact hj_fr_go (t0 := t) (k := k) hm e4 hM hx hv ebv hV hQ m 0 K t _ _ (by omega) (by omega) (hj_fr_r t) rfl (fun _ _ _ _ => rfl) (fun j hj => absurd hj (by omega)) rfl rfl rfl rfl rfl rfl
/-- start where the order stands: nothing is measured -/
theorem hf_start2 {k K : Nat} {t : XT} {Q : XT → Prop} (hF : t.1 7 = t.1 5) (hk : k < 64) (hK : 301 ≤ K) (hQ : ∀ t', hf_fr t t' → hf_v t' (fun c => if c = k then 1 else 0) → Q t') : wqX1_start K t (nI k) Q := by
  obtain ⟨K, rfl⟩ : ∃ K', K = K' + 2 := ⟨K - 2, by omega⟩
  have ck : (nI k).toNatClampNeg = k := nI_clamp (by omega)
  show wbX1_start_0 (wpX1_start (K + 1)) (K + 1) t (uI (fun _ => 0) 1 (nI k)) (fun _ => 0) Q
  show wbX2_measure_0 (wpX2_measure K) K t (fun _ => 0) (fun _ => 0) _
  refine ⟨fun ne => absurd hF ne, fun _ t2 e2 => ⟨vp_in_nI hk (by decide), fun t3 e3 => ?_⟩⟩
  have e3 : t3 = sB t2 3 (vp_updL (t2.2.2.2 3) k 1) := by
    rw [e3]; exact congrArg (fun n => sB t2 3 (vp_updL (t2.2.2.2 3) n 1)) ck
  refine hQ t3 (by rw [e3, e2]; exact hf_fr_t (hf_fr_B t _) (hf_fr_B _ _)) (fun c hc => ?_)
  rw [e3, hf_B3, hf_in]
  show (if c = k then (1 : Int64) else t2.2.2.2 3 c) = Int64.ofInt (if c = k then 1 else 0)
  by_cases q : c = k
  · rw [if_pos q, if_pos q]; rfl
  · rw [if_neg q, if_neg q, e2, hf_B3]; rfl
