/-! ===== the class: a table by SIGNS has small rows; its minor is above 0 (DIM 1 to 3) ===== -/
theorem cp_disj (P R : Nat → Bool) (h : ∀ k, P k = true → R k = true → False) : ∀ m, cp P m + cp R m ≤ m
  | 0 => Nat.le_refl 0
  | m + 1 => by
    have g := cp_disj P R h m
    show cp P m + (if P m = true then 1 else 0) + (cp R m + (if R m = true then 1 else 0)) ≤ m + 1
    by_cases p : P m = true
    · rw [if_pos p, if_neg (fun r => h m p r)]; omega
    · rw [if_neg p]
      have : (if R m = true then 1 else 0) ≤ 1 := by split <;> omega
      omega
theorem hc_900 : ∀ a, a < 61 → a * (60 - a) ≤ 900 := by decide +kernel
theorem hc_ab900 {a b : Nat} (h : a + b ≤ 60) : a * b ≤ 900 :=
  Nat.le_trans (Nat.mul_le_mul_left a (show b ≤ 60 - a by omega)) (hc_900 a (by omega))
/-- what filling leaves as it is -/
def hc_E (A : Nat → Int32) (B : Nat → Nat → Int32) (F0 F2 : Nat → Int64) (t : XT) : Prop := t.1 = A ∧ t.2.2.1 = B ∧ t.2.2.2 0 = F0 ∧ t.2.2.2 2 = F2
theorem hc_resize {t : XT} {z : Int32} {m a b K : Nat} {Q : XT → Prop} (hI : hx_inv t z m) (hS : hc_sh t) (ha : a < 64) (hb : b < 64) (hab : a * b ≤ 900) (hK : 20 ≤ K) (hQ : ∀ t', hx_inv t' z m → hc_sh t' → hx_ab t' a b → t'.2.2.1 = t.2.2.1 → t'.2.2.2 = t.2.2.2 → Q t') : wqX5_resize K t (nI a) (nI b) Q := by
  obtain ⟨K, rfl⟩ : ∃ K', K = K' + 5 := ⟨K - 5, by omega⟩
  have fin : ∀ (u : XT), u = sI (sI t 10 (nI a)) 11 (nI b) → Q u := by
    intro u e
    have hab' : hx_ab (sI (sI t 10 (nI a)) 11 (nI b)) a b := ⟨ha, hb, hab, rfl, rfl⟩
    rw [e]
    refine hQ _ ?_ (hc_kp.1 _ _ _ (by decide) (hc_kp.1 _ _ _ (by decide) hS)) hab' rfl rfl
    obtain ⟨a1, a2, a3, a4, a5, a6, a7, a8, a9, a10, _⟩ := hI
    exact ⟨a1, a2, a3, a4, a5, a6, a7, a8, a9, a10, ⟨a, b, hab'⟩⟩
  show wbX5_resize_0 (wpX5_resize (K + 4)) (K + 4) t (uI (uI (fun _ => 0) 1 (nI a)) 2 (nI b)) (fun _ => 0) Q
  refine ⟨fun x => absurd x (nI_pos (n := a) (by omega)), fun _ => ⟨fun x => absurd x (nI_pos (n := b) (by omega)), fun _ => ⟨fun x => absurd x (show ¬ nI 64 ≤ nI a from nI_ge ha (by omega)), fun _ => ⟨fun x => absurd x (show ¬ nI 64 ≤ nI b from nI_ge hb (by omega)), fun _ v5 e5 => ?_⟩⟩⟩⟩
  have e5 : v5 = nI (a * b) := e5.trans (pk_mul a b)
  subst e5
  refine ⟨fun x => absurd x (show ¬ nI 900 < nI (a * b) from nI_nlt hab (by omega)), fun _ => ?_⟩
  show wbX5_resize_2 (wpX5_resize (K + 3)) (K + 3) t _ _ Q
  refine ⟨fun x => absurd (show (1 : Int32) = 0 from x) (by decide), fun _ => ?_⟩
  show wbX5_resize_3 (wpX5_resize (K + 2)) (K + 2) t _ _ Q
  intro t8 e8
  refine ⟨fun x => absurd (show (1 : Int32) = 0 from x) (by decide), fun _ => ?_⟩
  show wbX5_resize_4 (wpX5_resize (K + 1)) (K + 1) t8 _ _ Q
  intro t10 e10
  refine fin t10 ?_
  rw [e10, e8]
  rfl
theorem hc_fr_go {A : Nat → Int32} {B : Nat → Nat → Int32} {F0 F2 : Nat → Int64} {m a b x k N : Nat} {v : Int64} {Q : XT → Prop} (hm : m ≤ 60) (e4 : A 4 = nI m) (ha : a < 64) (hbb : b < 64) (hab : a * b ≤ 900) (ea : A 10 = nI a) (eb : A 11 = nI b) (hx : x < a) (hk : k < m) (hv : ∀ i, m ≤ i → hb v i = false) (ebv : b = cp (hb v) 64) (hf : ∀ f, hb (F0 k) f = true → f < k) (hdeg : cp (hb (F0 k)) k ≤ N) (hQ : ∀ t', hc_E A B F0 F2 t' → (∀ r, r < x + 1 → hc_row t' b N r) → Q t') :
    ∀ (d i K : Nat) (t : XT) (li : Nat → Int32) (lj : Nat → Int64), i + d = m → 4 * d + 20 ≤ K → hc_E A B F0 F2 t → (∀ r, r < x → hc_row t b N r) → (∃ g : Nat → Int, (∀ c, c < cp (hb v) i → (t.2.2.2 7 (x * b + c)).toInt = g c) ∧ ex_sq (cp (hb v) i) g ≤ cp (hb (F0 k)) i) → li 1 = nI x → li 2 = nI k → li 5 = 0 → li 6 = nI (cp (hb v) i) → li 7 = nI i → lj 3 = v → wpX0_fillRow K 1 t li lj Q := by
  intro d
  induction d with
  | zero =>
    intro i K t li lj hd hK hE hR hg e1 e2 e5 e6 e7 e3
    obtain ⟨K, rfl⟩ : ∃ K', K = K' + 1 := ⟨K - 1, by omega⟩
    obtain rfl : i = m := by omega
    have et : t.1 4 = nI i := by rw [hE.1]; exact e4
    show wbX0_fillRow_1 (wpX0_fillRow K) K t li lj Q
    refine ⟨fun _ => hQ t hE (fun r hr => ?_), fun x => absurd (by rw [et, e7]; exact nI_le (by omega) (by omega)) x⟩
    by_cases q : r = x
    · subst q
      obtain ⟨g, h1, h2⟩ := hg
      have c64 : cp (hb v) i = b := by
        rw [ebv]
        have := cp_z (hb v) (m := i) (64 - i) hv
        rw [show i + (64 - i) = 64 by omega] at this
        exact this.symm
      rw [c64] at h1 h2
      refine ⟨g, h1, Int.le_trans h2 ?_⟩
      have z := cp_z (hb (F0 k)) (m := k) (i - k) (fun j hj => by
        cases q : hb (F0 k) j with
        | false => rfl
        | true => have := hf j q; omega)
      rw [show k + (i - k) = i by omega] at z
      rw [z]
      exact Int.ofNat_le.mpr hdeg
    · exact hR r (by omega)
  | succ d ih =>
    intro i K t li lj hd hK hE hR hg e1 e2 e5 e6 e7 e3
    obtain ⟨K, rfl⟩ : ∃ K', K = K' + 3 := ⟨K - 3, by omega⟩
    obtain ⟨g, h1, h2⟩ := hg
    have three : ∀ (K2 : Nat) (t' : XT) (li' : Nat → Int32) (lj' : Nat → Int64), K + 1 ≤ K2 → hc_E A B F0 F2 t' → (∀ r, r < x → hc_row t' b N r) → (∃ g : Nat → Int, (∀ c, c < cp (hb v) (i + 1) → (t'.2.2.2 7 (x * b + c)).toInt = g c) ∧ ex_sq (cp (hb v) (i + 1)) g ≤ cp (hb (F0 k)) (i + 1)) → li' 1 = nI x → li' 2 = nI k → li' 5 = 0 → li' 6 = nI (cp (hb v) (i + 1)) → li' 7 = nI i → lj' 3 = v → wpX0_fillRow K2 3 t' li' lj' Q := by
      intro K2 t' li' lj' h b0 b1 b2 b3 b4 b5 b6 b7 b8
      obtain ⟨K2, rfl⟩ : ∃ K', K2 = K' + 1 := ⟨K2 - 1, by omega⟩
      show wbX0_fillRow_3 (wpX0_fillRow K2) K2 t' li' lj' Q
      intro w e
      exact ih (i + 1) K2 t' _ _ (by omega) (by omega) b0 b1 b2 b3 b4 b5 b6 (by show w = _; rw [e, b7]; exact hs_inc i) b8
    have et : t.1 4 = nI m := by rw [hE.1]; exact e4
    show wbX0_fillRow_1 (wpX0_fillRow (K + 2)) (K + 2) t li lj Q
    unfold wbX0_fillRow_1
    rw [et, e7, e3, e2]
    refine ⟨fun ge => ?_, fun _ => hw_isIn (by omega) (by omega) (fun bt => ⟨fun z => absurd z (by decide), fun _ => ⟨fun _ => ?_, fun z => absurd e5 z⟩⟩) (fun bf => ⟨fun _ => ?_, fun z => absurd rfl z⟩)⟩
    · have := (nI_leI (a := m) (b := i) (by omega) (by omega)).mp ge
      omega
    · have ci : cp (hb v) (i + 1) = cp (hb v) i + 1 := by
        show cp (hb v) i + (if hb v i = true then 1 else 0) = _
        rw [if_pos bt]
      have cb : cp (hb v) i < b := by
        have := cp_le (hb v) (show i + 1 ≤ 64 by omega)
        rw [← ebv, ci] at this
        omega
      have hM : hx_ab t a b := ⟨ha, hbb, hab, by rw [hE.1]; exact ea, by rw [hE.1]; exact eb⟩
      have put : ∀ (w : Int32) (y : Int), w.toInt = y → y * y ≤ (if hb (F0 k) i = true then 1 else 0) → ∀ v6 : Int64, v6 = w.toInt64 → wpX0_fillRow (K + 2) 2 t (uI (uI li 102 (li 6)) 101 (li 1)) (uI lj 103 v6) Q := by
        intro w y ew hy v6 e6'
        have g6 : v6.toInt = y := by rw [e6', Int32.toInt_toInt64]; exact ew
        show wbX0_fillRow_2 (wpX0_fillRow (K + 1)) (K + 1) t _ _ Q
        show wqX5_put (K + 1) t (li 1) (li 6) v6 _
        rw [e1, e6]
        refine hc_put hM hx cb (by omega) (fun v9 e9 => ?_)
        refine three (K + 1) _ _ _ (by omega) hE (fun r hr => hc_row_put (hR r hr) cb (by omega)) ⟨fun j => if j = cp (hb v) i then y else g j, fun c hc => ?_, ?_⟩ e1 e2 e5 (by show v9 = _; rw [e9, ci]; show li 6 + _ = _; rw [e6]; exact hs_inc _) e7 e3
        · show (vp_updL (t.2.2.2 7) (x * b + cp (hb v) i) v6 (x * b + c)).toInt = if c = cp (hb v) i then y else g c
          by_cases q : c = cp (hb v) i
          · rw [if_pos q, q, show vp_updL (t.2.2.2 7) (x * b + cp (hb v) i) v6 (x * b + cp (hb v) i) = v6 from if_pos rfl]; exact g6
          · rw [if_neg q, show vp_updL (t.2.2.2 7) (x * b + cp (hb v) i) v6 (x * b + c) = t.2.2.2 7 (x * b + c) from if_neg (by omega)]
            exact h1 c (by omega)
        · rw [ci]
          show ex_sq (cp (hb v) i) (fun j => if j = cp (hb v) i then y else g j) + (if cp (hb v) i = cp (hb v) i then y else g (cp (hb v) i)) * (if cp (hb v) i = cp (hb v) i then y else g (cp (hb v) i)) ≤ ((cp (hb (F0 k)) i + (if hb (F0 k) i = true then 1 else 0) : Nat) : Int)
          rw [if_pos rfl, ex_sq_eq _ _ g (fun j hj => if_neg (by omega))]
          by_cases q : hb (F0 k) i = true
          · rw [if_pos q] at hy ⊢; omega
          · rw [if_neg q] at hy ⊢; omega
      refine hc_signOf (by omega) (by omega) (by omega) (fun v6 e6' => put 0 0 (by decide) ?_ v6 e6') (fun bt2 => ?_)
      · split <;> decide
      · rw [hE.2.2.1] at bt2
        exact ⟨fun v6 e6' => put 1 1 (by decide) (by rw [if_pos bt2]; decide) v6 e6', fun v6 e6' => put (-1) (-1) (by decide) (by rw [if_pos bt2]; decide) v6 e6'⟩
    · have ci : cp (hb v) (i + 1) = cp (hb v) i := by
        show cp (hb v) i + (if hb v i = true then 1 else 0) = _
        rw [if_neg (by rw [bf]; decide)]; rfl
      refine three (K + 2) t _ _ (by omega) hE hR ⟨g, by rw [ci]; exact h1, ?_⟩ e1 e2 e5 (by rw [ci]; exact e6) e7 e3
      rw [ci]
      exact Int.le_trans h2 (Int.ofNat_le.mpr (cp_le _ (by omega)))
theorem hc_fillRow {t : XT} {m a b x k N K : Nat} {v : Int64} {Q : XT → Prop} (hm : m ≤ 60) (e4 : t.1 4 = nI m) (hM : hx_ab t a b) (hx : x < a) (hk : k < m) (hv : ∀ i, m ≤ i → hb v i = false) (ebv : b = cp (hb v) 64) (hf : ∀ f, hb (t.2.2.2 0 k) f = true → f < k) (hdeg : cp (hb (t.2.2.2 0 k)) k ≤ N) (hR : ∀ r, r < x → hc_row t b N r) (hK : 300 ≤ K) (hQ : ∀ t', hc_E t.1 t.2.2.1 (t.2.2.2 0) (t.2.2.2 2) t' → (∀ r, r < x + 1 → hc_row t' b N r) → Q t') : wqX0_fillRow K t (nI x) (nI k) v 0 Q := by
  obtain ⟨K, rfl⟩ : ∃ K', K = K' + 1 := ⟨K - 1, by omega⟩
  obtain ⟨ha, hb', hab, ea, eb⟩ := hM
  exact hc_fr_go (A := t.1) (B := t.2.2.1) (F0 := t.2.2.2 0) (F2 := t.2.2.2 2) hm e4 ha hb' hab ea eb hx hk hv ebv hf hdeg hQ m 0 K t _ _ (by omega) (by omega) ⟨rfl, rfl, rfl, rfl⟩ hR ⟨fun _ => 0, fun c hc => absurd (show c < 0 from hc) (by omega), Int.le_refl 0⟩ rfl rfl rfl rfl rfl rfl
theorem hc_fi_go {A : Nat → Int32} {B : Nat → Nat → Int32} {F0 F2 : Nat → Int64} {m a b N : Nat} {u v : Int64} {Q : XT → Prop} (hm : m ≤ 60) (e4 : A 4 = nI m) (ha : a < 64) (hbb : b < 64) (hab : a * b ≤ 900) (ea : A 10 = nI a) (eb : A 11 = nI b) (hu : ∀ i, m ≤ i → hb u i = false) (hv : ∀ i, m ≤ i → hb v i = false) (eau : a = cp (hb u) 64) (ebv : b = cp (hb v) 64) (hF : ∀ k, k < m → hb u k = true → (∀ f, hb (F0 k) f = true → f < k) ∧ cp (hb (F0 k)) k ≤ N) (hQ : ∀ t', hc_E A B F0 F2 t' → (∀ r, r < a → hc_row t' b N r) → Q t') :
    ∀ (d i K : Nat) (t : XT) (li : Nat → Int32) (lj : Nat → Int64), i + d = m → 4 * d + 500 ≤ K → hc_E A B F0 F2 t → (∀ r, r < cp (hb u) i → hc_row t b N r) → li 5 = 0 → li 6 = nI (cp (hb u) i) → li 7 = nI i → lj 1 = u → lj 3 = v → wpX0_fill K 1 t li lj Q := by
  intro d
  induction d with
  | zero =>
    intro i K t li lj hd hK hE hR e5 e6 e7 e1 e3
    obtain ⟨K, rfl⟩ : ∃ K', K = K' + 1 := ⟨K - 1, by omega⟩
    obtain rfl : i = m := by omega
    have et : t.1 4 = nI i := by rw [hE.1]; exact e4
    have c64 : cp (hb u) i = a := by
      rw [eau]
      have := cp_z (hb u) (m := i) (64 - i) hu
      rw [show i + (64 - i) = 64 by omega] at this
      exact this.symm
    show wbX0_fill_1 (wpX0_fill K) K t li lj Q
    exact ⟨fun _ => hQ t hE (by rw [← c64]; exact hR), fun x => absurd (by rw [et, e7]; exact nI_le (by omega) (by omega)) x⟩
  | succ d ih =>
    intro i K t li lj hd hK hE hR e5 e6 e7 e1 e3
    obtain ⟨K, rfl⟩ : ∃ K', K = K' + 3 := ⟨K - 3, by omega⟩
    have et : t.1 4 = nI m := by rw [hE.1]; exact e4
    have three : ∀ (K2 : Nat) (t' : XT) (li' : Nat → Int32), K + 1 ≤ K2 → hc_E A B F0 F2 t' → (∀ r, r < cp (hb u) (i + 1) → hc_row t' b N r) → li' 5 = 0 → li' 6 = nI (cp (hb u) (i + 1)) → li' 7 = nI i → wpX0_fill K2 3 t' li' lj Q := by
      intro K2 t' li' h b0 b1 b2 b3 b4
      obtain ⟨K2, rfl⟩ : ∃ K', K2 = K' + 1 := ⟨K2 - 1, by omega⟩
      show wbX0_fill_3 (wpX0_fill K2) K2 t' li' lj Q
      intro w e
      exact ih (i + 1) K2 t' _ _ (by omega) (by omega) b0 b1 b2 b3 (by show w = _; rw [e, b4]; exact hs_inc i) e1 e3
    show wbX0_fill_1 (wpX0_fill (K + 2)) (K + 2) t li lj Q
    unfold wbX0_fill_1
    rw [et, e7, e1]
    refine ⟨fun ge => ?_, fun _ => hw_isIn (by omega) (by omega) (fun bt => ⟨fun z => absurd z (by decide), fun _ => ⟨fun _ => ?_, fun z => absurd e5 z⟩⟩) (fun bf => ⟨fun _ => ?_, fun z => absurd rfl z⟩)⟩
    · have := (nI_leI (a := m) (b := i) (by omega) (by omega)).mp ge
      omega
    · have ci : cp (hb u) (i + 1) = cp (hb u) i + 1 := by
        show cp (hb u) i + (if hb u i = true then 1 else 0) = _
        rw [if_pos bt]
      have ca : cp (hb u) i < a := by
        have := cp_le (hb u) (show i + 1 ≤ 64 by omega)
        rw [← eau, ci] at this
        omega
      have hM : hx_ab t a b := ⟨ha, hbb, hab, by rw [hE.1]; exact ea, by rw [hE.1]; exact eb⟩
      obtain ⟨f1, f2⟩ := hF i (by omega) bt
      show wbX0_fill_2 (wpX0_fill (K + 1)) (K + 1) t li lj Q
      unfold wbX0_fill_2
      rw [e5, e6, e7, e3]
      refine hc_fillRow hm et hM ca (by omega) hv ebv (by rw [hE.2.2.1]; exact f1) (by rw [hE.2.2.1]; exact f2) hR (by omega) (fun t11 h11 r11 v12 e12 => ?_)
      rw [hE.1, hE.2.1, hE.2.2.1, hE.2.2.2] at h11
      exact three (K + 1) t11 _ (by omega) h11 (by rw [ci]; exact r11) e5 (by show v12 = _; rw [e12, ci]; exact hs_inc _) e7
    · have ci : cp (hb u) (i + 1) = cp (hb u) i := by
        show cp (hb u) i + (if hb u i = true then 1 else 0) = _
        rw [if_neg (by rw [bf]; decide)]; rfl
      exact three (K + 2) t _ (by omega) hE (by rw [ci]; exact hR) e5 (by rw [ci]; exact e6) e7
theorem hc_pw2 : ∀ i, i < 30 → (2 : Int) ^ i * 2 ≤ 2305843009213693952 := by decide +kernel
theorem hc_pw3 : ∀ i, i < 30 → (3 : Int) ^ i * 3 ≤ 2305843009213693952 := by decide +kernel
theorem hc_pw4 : ∀ i, i < 30 → (4 : Int) ^ i * 4 ≤ 2305843009213693952 := by decide +kernel
theorem hc_pw5 : ∀ i, i < 26 → (5 : Int) ^ i * 5 ≤ 2305843009213693952 := by decide +kernel
/-- rankOf by SIGNS leaves a minor above 0, if the powers fit -/
theorem hc_rank0 {t : XT} {z : Int32} {m d K : Nat} {s : Int64} {Q : Int32 → XT → Prop} (hI : hx_inv t z m) (hS : hc_sh t) (hd : d < 4) (hP : ∀ i : Nat, cp (hb (s &&& t.2.2.2 2 (d + 1))) 64 + cp (hb (s &&& t.2.2.2 2 d)) 64 ≤ 60 → i < cp (hb (s &&& t.2.2.2 2 (d + 1))) 64 → i < cp (hb (s &&& t.2.2.2 2 d)) 64 → ((d + 2 : Nat) : Int) ^ i * ((d + 2 : Nat) : Int) ≤ 2305843009213693952) (hK : 8000 ≤ K) (hQ : ∀ r t', r < 64 → hx_inv t' z m → hc_sh t' → 0 < (t'.2.1 7).toInt → Q (nI r) t') : wqX0_rankOf K t s (nI (d + 1)) 0 Q := by
  obtain ⟨K, rfl⟩ : ∃ K', K = K' + 1 := ⟨K - 1, by omega⟩
  have hS' := hS
  obtain ⟨m', m60, e4, hA, hO⟩ := hS'
  obtain rfl : m' = m := (nI_eq (by omega) (by have := hI.2.2.1; omega)).mp (e4.symm.trans hI.2.1)
  have hm : hx_inv t z m' ∧ hc_sh t := ⟨hI, hS⟩
  show wbX0_rankOf_0 (wpX0_rankOf K) K t (uI (uI (fun _ => 0) 3 (nI (d + 1))) 4 0) (uI (fun _ => 0) 1 s) Q
  refine ⟨fun x => absurd x (show ¬ nI (d + 1) < nI 1 from nI_nlt (by omega) (by omega)), fun _ => ⟨fun _ => ⟨vp_in_nI (n := d + 1) (by omega) (by decide), fun v3 e3 v4 e4' v5 e5 => ?_⟩, fun x => absurd (show nI (d + 1) < nI 5 from nI_lt (by omega) (by omega)) x⟩⟩
  have e5 : v5 = nI d := e5.trans (nI_pred d)
  subst e5
  refine ⟨vp_in_nI (by omega) (by decide), fun v6 e6 v7 e7 => ?_⟩
  have e3 : v3 = t.2.2.2 2 (nI (d + 1)).toNatClampNeg := e3
  rw [nI_clamp (by omega)] at e3 e6
  have u1 : ∀ k, hb v4 k = true → k < m' ∧ t.2.2.1 3 k = nI (d + 1) := by
    intro k hk
    have e4' : v4 = s &&& v3 := e4'
    rw [e4', hb_and, Bool.and_eq_true, e3] at hk
    exact hO (d + 1) k (by omega) hk.2
  have u2 : ∀ k, hb v7 k = true → k < m' ∧ t.2.2.1 3 k = nI d := by
    intro k hk
    have e7 : v7 = s &&& v6 := e7
    rw [e7, hb_and, Bool.and_eq_true, e6] at hk
    exact hO d k (by omega) hk.2
  have z1 : ∀ i, m' ≤ i → hb v4 i = false := fun i hi => by
    cases q : hb v4 i with
    | false => rfl
    | true => have := (u1 i q).1; omega
  have z2 : ∀ i, m' ≤ i → hb v7 i = false := fun i hi => by
    cases q : hb v7 i with
    | false => rfl
    | true => have := (u2 i q).1; omega
  have dj := cp_disj (hb v4) (hb v7) (fun k p q => by
    have a := (u1 k p).2
    have b := (u2 k q).2
    have := (nI_eq (by omega) (by omega)).mp (a.symm.trans b)
    omega) m'
  have c1 : cp (hb v4) 64 = cp (hb v4) m' := by
    have := cp_z (hb v4) (m := m') (64 - m') z1
    rw [show m' + (64 - m') = 64 by omega] at this; exact this
  have c2 : cp (hb v7) 64 = cp (hb v7) m' := by
    have := cp_z (hb v7) (m := m') (64 - m') z2
    rw [show m' + (64 - m') = 64 by omega] at this; exact this
  have w4 : v4 = s &&& t.2.2.2 2 (d + 1) := by rw [← e3]; exact e4'
  have w7 : v7 = s &&& t.2.2.2 2 d := by rw [← e6]; exact e7
  have sum : cp (hb v4) 64 + cp (hb v7) 64 ≤ 60 := by omega
  have ab := hc_ab900 sum
  obtain ⟨K, rfl⟩ : ∃ K', K = K' + 1 := ⟨K - 1, by omega⟩
  show wbX0_fill_0 (wpX0_fill K) K t (uI (fun _ => 0) 5 0) (uI (uI (fun _ => 0) 1 v4) 3 v7) _
  refine hw_bc64 (by omega) (hw_bc64 (by omega) ?_)
  show wqX5_resize K t (nI (nb 64 (un v4))) (nI (nb 64 (un v7))) _
  rw [cp_bc, cp_bc]
  refine hc_resize hI hS (by omega) (by omega) ab (by omega) (fun t3 h3 s3 M3 r3 l3 => ?_)
  have M3' := M3
  obtain ⟨ha, hbb, hab, ea, eb⟩ := M3
  refine hc_fi_go (A := t3.1) (B := t3.2.2.1) (F0 := t3.2.2.2 0) (F2 := t3.2.2.2 2) (m := m') (N := d + 2) (u := v4) (v := v7) m60 h3.2.1 ha hbb hab ea eb z1 z2 rfl rfl (fun k hk hb1 => ?_) (fun t8 h8 r8 => ?_) m' 0 K t3 _ _ (by omega) (by omega) ⟨rfl, rfl, rfl, rfl⟩ (fun r hr => absurd (show r < 0 from hr) (by omega)) rfl rfl rfl rfl rfl
  · rw [l3]
    obtain ⟨dd, q1, q2, q3⟩ := hc_deg (hA k hk)
    have q4 := (u1 k hb1).2
    have : dd = d + 1 := (nI_eq (by omega) (by omega)).mp (q2.symm.trans q4)
    subst this
    obtain ⟨_, _, _, _, _, _, _, _, q5⟩ := hA k hk
    exact ⟨fun f hf => (q5 f hf).1, q3⟩
  · have I8 : hx_inv t8 z m' := hx_same h3 h8.1 h8.2.1
    have S8 : hc_sh t8 := hc_sh_fr s3 (by rw [h8.1]) (by rw [h8.2.1]) (by rw [h8.2.1]) h8.2.2.1 h8.2.2.2
    have M8 : hx_ab t8 (cp (hb v4) 64) (cp (hb v7) 64) := hx_put M3' h8.1
    have ch : ∃ T : Nat → Nat → Int, ∀ r, r < cp (hb v4) 64 → (∀ c, c < cp (hb v7) 64 → (t8.2.2.2 7 (r * cp (hb v7) 64 + c)).toInt = T r c) ∧ ex_sq (cp (hb v7) 64) (T r) ≤ ((d + 2 : Nat) : Int) := by
      refine ⟨fun r c => (t8.2.2.2 7 (r * cp (hb v7) 64 + c)).toInt, fun r hr => ⟨fun _ _ => rfl, ?_⟩⟩
      obtain ⟨g, g1, g2⟩ := r8 r hr
      rw [ex_sq_eq _ _ g (fun j hj => g1 j hj)]; exact g2
    obtain ⟨T, hT⟩ := ch
    have el : wqX5_eliminate (K + 1) t8 (fun r t' => hx_inv t' z m' ∧ 0 < (t'.2.1 7).toInt ∧ ∃ n, n < 64 ∧ r = nI n) := hb_eliminate I8 M8 (fun r c hr hc => (hT r hr).1 c hc) (by omega) (fun r hr => (hT r hr).2) (fun i h1 h2 => hP i (by rw [← w4, ← w7]; exact sum) (by rw [← w4]; exact h1) (by rw [← w7]; exact h2)) (by omega) (fun r t' hr h' hp => ⟨h', hp, r, hr, rfl⟩)
    refine wcX5_eliminate hc_kp S8 el (fun r t' h' s' => ?_)
    obtain ⟨a1, a2, n, a3, a4⟩ := h'
    rw [a4]; exact hQ n t' a3 a1 s' a2
