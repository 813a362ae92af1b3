/-! ===== the class: tables by INCIDENCES: the whole table; its minor is above 0 ===== -/
def hj_cx (t : XT) (z : Int32) (m o : Nat) (g : Nat → Nat) : Prop := hx_inv t z m ∧ h6_F t ∧ t.1 7 = t.1 5 ∧ o ≤ 64 ∧ t.1 6 = nI o ∧ (∀ i, i < o → t.2.2.1 7 i = nI (g i)) ∧ ht_ok (t.2.1 0) (ht_s (t.2.2.1 5) (t.2.2.2 0)) o g
def hj_V (t : XT) (d o : Nat) (g : Nat → Nat) (k : Nat) : Nat → Int := hf_fo (t.2.2.1 5) (t.2.2.1 2) (t.2.2.1 3) (t.2.2.2 0) d o g (fun y => if y = k then 1 else 0) o
theorem hj_F {t t' : XT} (h : h6_F t) (e3 : t'.2.2.1 3 = t.2.2.1 3) (e0 : t'.2.2.2 0 = t.2.2.2 0) : h6_F t' := by
  unfold h6_F; rw [e3, e0]; exact h
theorem hj_row_e {t t' : XT} {b x : Nat} {v : Int64} {V : Nat → Int} (h : hj_row t b v x V) (e : ∀ i, i < 64 → hb v i = true → t'.2.2.2 7 (x * b + cp (hb v) i) = t.2.2.2 7 (x * b + cp (hb v) i)) : hj_row t' b v x V := fun i hi hb' => (e i hi hb').trans (h i hi hb')
/-- behind start: pour, and the row -/
theorem hj_step {t1 t : XT} {z : Int32} {m o d a b x k K : Nat} {g kr : Nat → Nat} {v : Int64} {li : Nat → Int32} {lj : Nat → Int64} {Q : XT → Prop} (hC : hj_cx t1 z m o g) (hd : d < 4) (hf : hj_fr t1 t) (hv0 : hf_v t (fun c => if c = k then 1 else 0)) (hk : k < m) (Dk : t1.2.2.1 3 k = nI (d + 1)) (hM : hx_ab t1 a b) (hx : x < a) (hv : ∀ i, m ≤ i → hb v i = false) (ebv : b = cp (hb v) 64) (ekr : kr x = k) (hR : ∀ r, r < x → hj_row t b v r (hj_V t1 d o g (kr r))) (hK : 900 ≤ K) (l5 : li 5 = 1) (l6 : li 6 = nI x) (l7 : li 7 = nI k) (j3 : lj 3 = v)
    (hQ : ∀ t' v12, hj_fr t1 t' → (∀ r, r < x + 1 → hj_row t' b v r (hj_V t1 d o g (kr r))) → v12 = nI (x + 1) → wpX0_fill (K - 1) 3 t' (uI li 6 v12) lj Q) : vp_in (nI k) 64 ∧ (∀ v_9 : Int32, v_9 = (t.2.2.1 3) (nI k).toNatClampNeg → (wqX1_pour K t v_9 1 (fun t_10 => wpX0_fill K 2 t_10 li lj Q))) := by
  obtain ⟨hI, hF, h75, ho, eo, hg, hok⟩ := hC
  have m60 := hI.2.2.1
  refine ⟨vp_in_nI (by omega) (by decide), fun v9 e9 => ?_⟩
  have e9 : v9 = nI (d + 1) := by
    rw [e9, hf.2.2.1]
    exact (congrArg (t1.2.2.1 3) (nI_clamp (by omega))).trans Dk
  subst e9
  have hIt : hx_inv t z m := hx_same hI hf.1 hf.2.2.1
  have hFt : h6_F t := hj_F hF (by rw [hf.2.2.1]) (hf.2.2.2 0 (by decide) (by decide))
  refine hf_pour hd (by decide) hIt hFt (by rw [hf.1]; exact eo) (by rw [hf.2.2.1]; exact hg) (fun i hi => (hok.1 i hi).1) ho hv0 (by omega) (fun t10 f10 v10 => ?_)
  rw [hf.2.2.1, hf.2.2.2 0 (by decide) (by decide)] at v10
  obtain ⟨K, rfl⟩ : ∃ K', K = K' + 1 := ⟨K - 1, by omega⟩
  show wbX0_fill_2 (wpX0_fill K) K t10 li lj Q
  unfold wbX0_fill_2
  rw [l5, l6, l7, j3]
  have g10 := hj_fr_t hf (hj_fr_f f10)
  have hM' : hx_ab t10 a b := by
    obtain ⟨m1, m2, m3, m4, m5⟩ := hM
    exact ⟨m1, m2, m3, by rw [g10.1]; exact m4, by rw [g10.1]; exact m5⟩
  refine hj_fillRow (V := hj_V t1 d o g k) m60 (by rw [g10.1]; exact hI.2.1) hM' hx hv ebv v10 (by omega) (fun t11 f11 r11 w11 v12 e12 => ?_)
  refine hQ t11 v12 (hj_fr_t g10 f11) (fun r hr => ?_) (by rw [e12]; exact hs_inc x)
  by_cases q : r = x
  · rw [q, ekr]; exact w11
  · refine hj_row_e (hR r (by omega)) (fun i hi bi => ?_)
    have cb : cp (hb v) i < b := by
      rw [ebv]; exact cp_st (hb v) bi hi
    rw [r11 r _ q cb, f10.2.2.2 7 (by decide)]
theorem hj_fi_go {t1 : XT} {z : Int32} {m o d a b : Nat} {g : Nat → Nat} {u v : Int64} {Q : XT → Prop} (hC : hj_cx t1 z m o g) (hd : d < 4) (hM : hx_ab t1 a b) (hv : ∀ i, m ≤ i → hb v i = false) (hu : ∀ i, hb u i = true → i < m ∧ t1.2.2.1 3 i = nI (d + 1)) (eau : a = cp (hb u) 64) (ebv : b = cp (hb v) 64)
    (hQ : ∀ t', hj_fr t1 t' → (∀ r, r < a → hj_row t' b v r (hj_V t1 d o g (ki (hb u) 64 r))) → Q t') :
    ∀ (e i K : Nat) (t : XT) (li : Nat → Int32) (lj : Nat → Int64), i + e = m → 4 * e + 1500 ≤ K → hj_fr t1 t → (∀ r, r < cp (hb u) i → hj_row t b v r (hj_V t1 d o g (ki (hb u) 64 r))) → li 5 = 1 → li 6 = nI (cp (hb u) i) → li 7 = nI i → lj 1 = u → lj 3 = v → wpX0_fill K 1 t li lj Q := by
  have m60 := hC.1.2.2.1
  intro e
  induction e with
  | zero =>
    intro i K t li lj hd' hK hf hR l5 l6 l7 j1 j3
    obtain ⟨K, rfl⟩ : ∃ K', K = K' + 1 := ⟨K - 1, by omega⟩
    obtain rfl : i = m := by omega
    have et : t.1 4 = nI i := by rw [hf.1]; exact hC.1.2.1
    have c64 : cp (hb u) i = a := by
      rw [eau]
      have := cp_z (hb u) (m := i) (64 - i) (fun k hk => by
        cases q : hb u k with
        | false => rfl
        | true => have := (hu k q).1; omega)
      rw [show i + (64 - i) = 64 by omega] at this
      exact this.symm
    show wbX0_fill_1 (wpX0_fill K) K t li lj Q
    exact ⟨fun _ => hQ t hf (by rw [← c64]; exact hR), fun x => absurd (by rw [et, l7]; exact nI_le (by omega) (by omega)) x⟩
  | succ e ih =>
    intro i K t li lj hd' hK hf hR l5 l6 l7 j1 j3
    obtain ⟨K, rfl⟩ : ∃ K', K = K' + 3 := ⟨K - 3, by omega⟩
    have et : t.1 4 = nI m := by rw [hf.1]; exact hC.1.2.1
    have three : ∀ (K2 : Nat) (t' : XT) (li' : Nat → Int32), K + 1 ≤ K2 → hj_fr t1 t' → (∀ r, r < cp (hb u) (i + 1) → hj_row t' b v r (hj_V t1 d o g (ki (hb u) 64 r))) → li' 5 = 1 → li' 6 = nI (cp (hb u) (i + 1)) → li' 7 = nI i → wpX0_fill K2 3 t' li' lj Q := by
      intro K2 t' li' h b0 b1 b2 b3 b4
      obtain ⟨K2, rfl⟩ : ∃ K', K2 = K' + 1 := ⟨K2 - 1, by omega⟩
      show wbX0_fill_3 (wpX0_fill K2) K2 t' li' lj Q
      intro w e
      exact ih (i + 1) K2 t' _ _ (by omega) (by omega) b0 b1 b2 b3 (by show w = _; rw [e, b4]; exact hs_inc i) j1 j3
    show wbX0_fill_1 (wpX0_fill (K + 2)) (K + 2) t li lj Q
    unfold wbX0_fill_1
    rw [et, l7, j1]
    refine ⟨fun ge => ?_, fun _ => hw_isIn (by omega) (by omega) (fun bt => ⟨fun z => absurd z (by decide), fun _ => ⟨fun z => absurd (l5.symm.trans z) (by decide), fun _ => ?_⟩⟩) (fun bf => ⟨fun _ => ?_, fun z => absurd rfl z⟩)⟩
    · have := (nI_leI (a := m) (b := i) (by omega) (by omega)).mp ge
      omega
    · have ci : cp (hb u) (i + 1) = cp (hb u) i + 1 := by
        show cp (hb u) i + (if hb u i = true then 1 else 0) = _
        rw [if_pos bt]
      have ca : cp (hb u) i < a := by rw [eau]; exact cp_st (hb u) bt (by omega)
      refine hf_start2 (by rw [hf.1]; exact hC.2.2.1) (by omega) (by omega) (fun t8 f8 v8 => ?_)
      refine hj_step (kr := ki (hb u) 64) hC hd (hj_fr_t hf (hj_fr_f f8)) v8 (by omega) (hu i bt).2 hM ca hv ebv (ki_inv (hb u) bt (by omega)) (fun r hr => hj_row_e (hR r hr) (fun j _ _ => by rw [f8.2.2.2 7 (by decide)])) (by omega) l5 l6 l7 j3 (fun t' v12 a1 a2 a3 => ?_)
      exact three _ t' _ (by omega) a1 (by rw [ci]; exact a2) l5 (by show v12 = _; rw [a3, ci]) l7
    · have ci : cp (hb u) (i + 1) = cp (hb u) i := by
        show cp (hb u) i + (if hb u i = true then 1 else 0) = _
        rw [if_neg (by rw [bf]; decide)]; rfl
      exact three (K + 2) t _ (by omega) hf (by rw [ci]; exact hR) l5 (by rw [ci]; exact l6) l7
theorem hj_fill1 {t0 : XT} {z : Int32} {m d a b : Nat} {u v : Int64} {Q : XT → Prop} (hI : hx_inv t0 z m) (hF : h6_F t0) (hT : t0.1 7 = t0.1 5 → ht_topo t0) (hd : d < 4) (hM : hx_ab t0 a b) (hv : ∀ i, m ≤ i → hb v i = false) (hu : ∀ i, hb u i = true → i < m ∧ t0.2.2.1 3 i = nI (d + 1)) (eau : a = cp (hb u) 64) (ebv : b = cp (hb v) 64)
    (hQ : ∀ t1 o g t', hj_cx t1 z m o g → ht_fr t0 t1 → hj_fr t1 t' → (∀ r, r < a → hj_row t' b v r (hj_V t1 d o g (ki (hb u) 64 r))) → Q t') (hQ0 : a = 0 → Q t0) :
    ∀ (e i K : Nat) (li : Nat → Int32) (lj : Nat → Int64), i + e = m → 4 * e + 1500 ≤ K → cp (hb u) i = 0 → li 5 = 1 → li 6 = nI 0 → li 7 = nI i → lj 1 = u → lj 3 = v → wpX0_fill K 1 t0 li lj Q := by
  have m60 := hI.2.2.1
  intro e
  induction e with
  | zero =>
    intro i K li lj hd' hK c0 l5 l6 l7 j1 j3
    obtain ⟨K, rfl⟩ : ∃ K', K = K' + 1 := ⟨K - 1, by omega⟩
    obtain rfl : i = m := by omega
    have c64 : cp (hb u) i = a := by
      rw [eau]
      have := cp_z (hb u) (m := i) (64 - i) (fun k hk => by
        cases q : hb u k with
        | false => rfl
        | true => have := (hu k q).1; omega)
      rw [show i + (64 - i) = 64 by omega] at this
      exact this.symm
    show wbX0_fill_1 (wpX0_fill K) K t0 li lj Q
    exact ⟨fun _ => hQ0 (by omega), fun x => absurd (by rw [hI.2.1, l7]; exact nI_le (by omega) (by omega)) x⟩
  | succ e ih =>
    intro i K li lj hd' hK c0 l5 l6 l7 j1 j3
    obtain ⟨K, rfl⟩ : ∃ K', K = K' + 3 := ⟨K - 3, by omega⟩
    show wbX0_fill_1 (wpX0_fill (K + 2)) (K + 2) t0 li lj Q
    unfold wbX0_fill_1
    rw [hI.2.1, l7, j1]
    refine ⟨fun ge => ?_, fun _ => hw_isIn (by omega) (by omega) (fun bt => ⟨fun z => absurd z (by decide), fun _ => ⟨fun z => absurd (l5.symm.trans z) (by decide), fun _ => ?_⟩⟩) (fun bf => ⟨fun _ => ?_, fun z => absurd rfl z⟩)⟩
    · have := (nI_leI (a := m) (b := i) (by omega) (by omega)).mp ge
      omega
    · have ci : cp (hb u) (i + 1) = 1 := by
        show cp (hb u) i + (if hb u i = true then 1 else 0) = _
        rw [if_pos bt, c0]
      have ca : 0 < a := by rw [eau, ← c0]; exact cp_st (hb u) bt (by omega)
      refine hf_start hI hT (by omega) (by omega) (fun t1 t8 h1 f1 e75 ⟨o, g, q1, q2, q3, q4⟩ f8 v8 => ?_)
      have hC : hj_cx t1 z m o g := ⟨h1, hj_F hF (f1.2.2.1 3 (by decide) (by decide)) (by rw [f1.2.2.2]), e75, q1, q2, q3, q4⟩
      have D1 : t1.2.2.1 3 = t0.2.2.1 3 := f1.2.2.1 3 (by decide) (by decide)
      have hM1 : hx_ab t1 a b := by
        obtain ⟨m1, m2, m3, m4, m5⟩ := hM
        exact ⟨m1, m2, m3, by rw [f1.1 10 (by decide) (by decide)]; exact m4, by rw [f1.1 11 (by decide) (by decide)]; exact m5⟩
      have hu1 : ∀ i, hb u i = true → i < m ∧ t1.2.2.1 3 i = nI (d + 1) := by rw [D1]; exact hu
      refine hj_step (kr := ki (hb u) 64) (x := 0) hC hd (hj_fr_f f8) v8 (by omega) (hu1 i bt).2 hM1 ca hv ebv (by have := ki_inv (hb u) bt (show i < 64 by omega); rw [c0] at this; exact this) (fun r hr => absurd hr (by omega)) (by omega) l5 l6 l7 j3 (fun t' v12 a1 a2 a3 => ?_)
      obtain ⟨K2, e2⟩ : ∃ K2, K + 2 - 1 = K2 + 1 := ⟨K, by omega⟩
      rw [e2]
      show wbX0_fill_3 (wpX0_fill K2) K2 t' (uI li 6 v12) lj Q
      intro w ew
      refine hj_fi_go hC hd hM1 hv hu1 eau ebv (fun t'' b1 b2 => hQ t1 o g t'' hC f1 b1 b2) e (i + 1) K2 t' _ _ (by omega) (by omega) a1 (by rw [ci]; exact a2) l5 (by show v12 = _; rw [a3, ci]) (by show w = _; rw [ew]; show li 7 + _ = _; rw [l7]; exact hs_inc i) j1 j3
    · have ci : cp (hb u) (i + 1) = 0 := by
        show cp (hb u) i + (if hb u i = true then 1 else 0) = _
        rw [if_neg (by rw [bf]; decide), c0]
      show wbX0_fill_3 (wpX0_fill (K + 1)) (K + 1) t0 li lj Q
      intro w ew
      exact ih (i + 1) (K + 1) _ _ (by omega) (by omega) ci l5 l6 (by show w = _; rw [ew, l7]; exact hs_inc i) j1 j3
