/-! ===== the class, pure: the least cell, a corner cleared, the diagonal; TORSION where the minor is above 0 ===== -/
theorem hz_lcT {t : XT} {a b x : Nat} {lj : Nat → Int64} {Q : Int32 → XT → Prop} (hM : hx_ab t a b) (hx : x ≤ 64) (h1 : ∀ q, q < a * b → Q (nI q) t) (h0 : Q (-1) t) :
    ∀ (d r K : Nat) (li : Nat → Int32), r + d = 64 → 300 * d + 20 ≤ K → (li 2 = -1 ∨ ∃ q, q < a * b ∧ li 2 = nI q) → li 1 = nI x → li 3 = nI r → wpX5_leastCell K 1 t li lj Q := by
  obtain ⟨ha, hb, hab, ea, eb⟩ := hM
  have out : ∀ li : Nat → Int32, (li 2 = -1 ∨ ∃ q, q < a * b ∧ li 2 = nI q) → Q (li 2) t := by
    intro li h
    rcases h with h | ⟨q, hq, h⟩
    · rw [h]; exact h0
    · rw [h]; exact h1 q hq
  intro d
  induction d with
  | zero =>
    intro r K li hd hK e2 e1 e3
    obtain ⟨K, rfl⟩ : ∃ K', K = K' + 1 := ⟨K - 1, by omega⟩
    show wbX5_leastCell_1 (wpX5_leastCell K) K t li lj Q
    exact ⟨fun _ => out li e2, fun x => absurd (by rw [ea, e3]; exact nI_le (by omega) (by omega)) x⟩
  | succ d ih =>
    intro r K li hd hK e2 e1 e3
    obtain ⟨K, rfl⟩ : ∃ K', K = K' + 1 := ⟨K - 1, by omega⟩
    show wbX5_leastCell_1 (wpX5_leastCell K) K t li lj Q
    unfold wbX5_leastCell_1
    rw [ea, e3, e1]
    refine ⟨fun _ => out li e2, fun lt => ?_⟩
    have hr : r < a := Nat.lt_of_not_le (fun q => lt (nI_le q (by omega)))
    have two : ∀ (f j K2 : Nat) (li' : Nat → Int32), j + f = 64 → 300 * d + 4 * f + 30 ≤ K2 → (li' 2 = -1 ∨ ∃ q, q < a * b ∧ li' 2 = nI q) → li' 1 = nI x → li' 3 = nI r → li' 4 = nI j → j < 200 → wpX5_leastCell K2 2 t li' lj Q := by
      intro f
      induction f with
      | zero =>
        intro j K2 li' hf h a2 a1 a3 a4 j200
        obtain ⟨K2, rfl⟩ : ∃ K', K2 = K' + 1 := ⟨K2 - 1, by omega⟩
        show wbX5_leastCell_2 (wpX5_leastCell K2) K2 t li' lj Q
        exact ⟨fun _ v3 e => ih (r + 1) K2 _ (by omega) (by omega) a2 a1 (by show v3 = _; rw [e, a3]; exact hs_inc r), fun x => absurd (by rw [eb, a4]; exact nI_le (by omega) (by omega)) x⟩
      | succ f ih2 =>
        intro j K2 li' hf h a2 a1 a3 a4 j200
        obtain ⟨K2, rfl⟩ : ∃ K', K2 = K' + 4 := ⟨K2 - 4, by omega⟩
        show wbX5_leastCell_2 (wpX5_leastCell (K2 + 3)) (K2 + 3) t li' lj Q
        unfold wbX5_leastCell_2
        rw [eb, a3, a4]
        refine ⟨fun _ v3 e => ih (r + 1) (K2 + 3) _ (by omega) (by omega) a2 a1 (by show v3 = _; rw [e]; exact hs_inc r), fun lt v4 f4 v5 f5 => ?_⟩
        have hj : j < b := Nat.lt_of_not_le (fun q => lt (nI_le q (by omega)))
        have f5 := hz_cellI f4 f5
        subst f5
        have hc := hx_at hr hj hab
        have lc := hx_lt hr hj
        have five : ∀ (K3 : Nat) (li'' : Nat → Int32), K2 ≤ K3 → (li'' 2 = -1 ∨ ∃ q, q < a * b ∧ li'' 2 = nI q) → li'' 1 = nI x → li'' 3 = nI r → li'' 4 = nI j → wpX5_leastCell (K3 + 1) 5 t li'' lj Q := by
          intro K3 li'' h3 b2 b1 b3 b4
          show wbX5_leastCell_5 (wpX5_leastCell K3) K3 t li'' lj Q
          intro v17 e
          exact ih2 (j + 1) K3 _ (by omega) (by omega) b2 b1 b3 (by show v17 = _; rw [e, b4]; exact hs_inc j) (by omega)
        have four : ∀ (K3 : Nat) (li'' : Nat → Int32), K2 ≤ K3 → (li'' 2 = -1 ∨ ∃ q, q < a * b ∧ li'' 2 = nI q) → li'' 1 = nI x → li'' 3 = nI r → li'' 4 = nI j → li'' 5 = nI (r * b + j) → wpX5_leastCell (K3 + 2) 4 t li'' lj Q := by
          intro K3 li'' h3 b2 b1 b3 b4 b5
          show wbX5_leastCell_4 (wpX5_leastCell (K3 + 1)) (K3 + 1) t li'' lj Q
          refine ⟨by rw [b5]; exact vp_in_nI hc (by decide), fun v13 _ v14 _ => ⟨fun _ => five K3 _ h3 b2 b1 b3 b4, fun _ => ⟨fun _ => five K3 _ h3 b2 b1 b3 b4, fun _ => five K3 _ h3 (Or.inr ⟨r * b + j, lc, b5⟩) b1 b3 b4⟩⟩⟩
        have three : ∀ (li'' : Nat → Int32), (li'' 2 = -1 ∨ ∃ q, q < a * b ∧ li'' 2 = nI q) → li'' 1 = nI x → li'' 3 = nI r → li'' 4 = nI j → li'' 5 = nI (r * b + j) → wpX5_leastCell (K2 + 3) 3 t li'' lj Q := by
          intro li'' b2 b1 b3 b4 b5
          show wpX5_leastCell (K2 + 2) 4 t (uI li'' 100 1) lj Q
          exact four K2 _ (Nat.le_refl _) b2 b1 b3 b4 b5
        refine ⟨fun _ => three _ a2 a1 a3 a4 rfl, fun ne => ⟨vp_in_nI hc (by decide), fun v7 _ v8 _ => ⟨?_, fun v9 _ v10 _ v11 _ => ⟨fun _ => four (K2 + 1) _ (by omega) a2 a1 a3 a4 rfl, fun _ => three _ a2 a1 a3 a4 rfl⟩⟩⟩⟩
        rcases a2 with h | ⟨q, hq, h⟩
        · exact absurd h ne
        · rw [h]; exact vp_in_nI (by omega) (by decide)
    exact two (64 - x) x K _ (by omega) (by omega) e2 e1 e3 rfl (by omega)
theorem hz_leastCell {t : XT} {a b x K : Nat} {Q : Int32 → XT → Prop} (hM : hx_ab t a b) (hx : x ≤ 64) (h1 : ∀ q, q < a * b → Q (nI q) t) (h0 : Q (-1) t) (hK : 20000 ≤ K) : wqX5_leastCell K t (nI x) Q := by
  obtain ⟨K, rfl⟩ : ∃ K', K = K' + 1 := ⟨K - 1, by omega⟩
  exact hz_lcT hM hx h1 h0 (64 - x) x K _ (by omega) (by omega) (Or.inl rfl) rfl rfl
theorem hz_gcd_go {Q : Int64 → Prop} (h : ∀ v, Q v) :
    ∀ (d i K : Nat) (li : Nat → Int32) (lj : Nat → Int64), i + d = 1000 → d + 5 ≤ K → li 8 = nI i → wpX5_gcd K 1 li lj Q := by
  have two : ∀ (K : Nat) (li : Nat → Int32) (lj : Nat → Int64), 1 ≤ K → wpX5_gcd K 2 li lj Q := by
    intro K li lj hK
    obtain ⟨K, rfl⟩ : ∃ K', K = K' + 1 := ⟨K - 1, by omega⟩
    exact h _
  intro d
  induction d with
  | zero =>
    intro i K li lj hd hK e8
    obtain ⟨K, rfl⟩ : ∃ K', K = K' + 1 := ⟨K - 1, by omega⟩
    obtain rfl : i = 1000 := by omega
    show wbX5_gcd_1 (wpX5_gcd K) K li lj Q
    exact ⟨fun _ => two K li lj (by omega), fun x => absurd (show nI 1000 ≤ li 8 by rw [e8]; exact nI_le (by omega) (by omega)) x⟩
  | succ d ih =>
    intro i K li lj hd hK e8
    obtain ⟨K, rfl⟩ : ∃ K', K = K' + 1 := ⟨K - 1, by omega⟩
    show wbX5_gcd_1 (wpX5_gcd K) K li lj Q
    exact ⟨fun _ => two K li lj (by omega), fun _ v4 e4 => ⟨fun _ => two K li lj (by omega), fun n4 => ⟨fun q => n4 (e4.trans ((hs_cmp0 _ _).mpr q)), fun v6 _ v7 e7 => ih (i + 1) K _ _ (by omega) (by omega) (by show v7 = _; rw [e7, e8]; exact hs_inc i)⟩⟩⟩
theorem hz_gcd {x y : Int64} {K : Nat} {Q : Int64 → Prop} (hK : 1100 ≤ K) (h : ∀ v, Q v) : wqX5_gcd K x y Q := by
  obtain ⟨K, rfl⟩ : ∃ K', K = K' + 1 := ⟨K - 1, by omega⟩
  show wbX5_gcd_0 (wpX5_gcd K) K (fun _ => 0) (uI (uI (fun _ => 0) 0 x) 2 y) Q
  exact fun v1 _ v2 _ => hz_gcd_go h 1000 0 K _ _ (by omega) (by omega) rfl
theorem hz_ccT_go {A : Nat → Int32} {B : Nat → Nat → Int32} {mn : Int64} {a b x : Nat} {lj : Nat → Int64} {Q : Int64 → XT → Prop} (ha : a < 64) (hb : b < 64) (hab : a * b ≤ 900) (ea : A 10 = nI a) (eb : A 11 = nI b) (hm : 0 < mn.toInt) (hxa : x < a) (hxb : x < b) (hQ : ∀ v t', hx_T A B mn (a * b) t' → Q v t') :
    ∀ (d i K : Nat) (t : XT) (li : Nat → Int32), i + d = 1000 → 2 * d + 21000 ≤ K → hx_T A B mn (a * b) t → li 1 = nI x → li 2 = nI i → wpX5_clearCorner K 1 t li lj Q := by
  intro d
  induction d with
  | zero =>
    intro i K t li hd hK hT e1 e2
    obtain ⟨K, rfl⟩ : ∃ K', K = K' + 1 := ⟨K - 1, by omega⟩
    obtain rfl : i = 1000 := by omega
    show wbX5_clearCorner_1 (wpX5_clearCorner K) K t li lj Q
    exact ⟨fun _ => hQ _ t hT, fun x => absurd (show nI 1000 ≤ li 2 by rw [e2]; exact nI_le (by omega) (by omega)) x⟩
  | succ d ih =>
    intro i K t li hd hK hT e1 e2
    obtain ⟨K, rfl⟩ : ∃ K', K = K' + 2 := ⟨K - 2, by omega⟩
    have three : ∀ (t' : XT) (li' : Nat → Int32), hx_T A B mn (a * b) t' → li' 1 = nI x → li' 2 = nI i → wpX5_clearCorner (K + 1) 3 t' li' lj Q := by
      intro t' li' hT' a1 a2
      show wbX5_clearCorner_3 (wpX5_clearCorner K) K t' li' lj Q
      intro v e
      exact ih (i + 1) K t' _ (by omega) (by omega) hT' a1 (by show v = _; rw [e, a2]; exact hs_inc i)
    have eb1 : t.1 11 = nI b := by rw [hT.1]; exact eb
    have ea1 : t.1 10 = nI a := by rw [hT.1]; exact ea
    have ab2 : a * b < 2 ^ 31 := by omega
    show wbX5_clearCorner_1 (wpX5_clearCorner (K + 1)) (K + 1) t li lj Q
    unfold wbX5_clearCorner_1
    rw [e1]
    refine ⟨fun _ => hQ _ t hT, fun _ => ?_⟩
    refine hz_leastCell (x := x) ⟨ha, hb, hab, ea1, eb1⟩ (by omega) (fun q hq => ⟨fun _ => hQ _ t hT, fun _ => ?_⟩) ⟨fun _ => hQ _ t hT, fun z => absurd rfl z⟩ (by omega)
    rw [eb1]
    have b0 : 0 < b := by omega
    refine ⟨fun _ => ⟨nI_ne0 b0 (by omega), fun v5 e5 => ?_⟩, fun _ => hQ _ t hT⟩
    have e5 : v5 = nI (q / b) := e5.trans (pk_div (by omega) b0 (by omega))
    subst e5
    have hqb : q / b < a := Nat.div_lt_of_lt_mul (by rw [Nat.mul_comm]; exact hq)
    refine hz_swapRowsT ha hb hab eb hxa hqb hT (by omega) (fun t6 h6 => ?_)
    have eb6 : t6.1 11 = nI b := by rw [h6.1]; exact eb
    rw [eb6]
    refine ⟨nI_ne0 b0 (by omega), fun v7 e7 => ?_⟩
    have e7 : v7 = nI (q % b) := e7.trans (pk_rem (by omega) b0 (by omega))
    subst e7
    have hqm : q % b < b := Nat.mod_lt _ b0
    refine hz_swapColumnsT ha hb hab ea eb hxb hqm h6 (by omega) (fun t8 h8 => hz_reduceRowsT ha hb hab ea eb hm hxa hxb h8 (by omega) (fun r9 t9 h9 => hz_reduceColumnsT ha hb hab ea eb hm hxa hxb h9 (by omega) (fun r10 t10 h10 => ?_)))
    refine ⟨fun _ => three t10 _ h10 e1 e2, fun _ => ⟨fun _ => three t10 _ h10 e1 e2, fun _ v13 f13 v14 f14 => ?_⟩⟩
    have eb10 : t10.1 11 = nI b := by rw [h10.1]; exact eb
    rw [eb10] at f13
    have f14 := hz_cellI f13 f14
    subst f14
    exact ⟨vp_in_nI (hx_at hxa hxb hab) (by decide), fun v15 _ => hz_gcd (by omega) (fun v => hQ v t10 h10)⟩
theorem hz_clearCorner {A : Nat → Int32} {B : Nat → Nat → Int32} {mn : Int64} {a b x K : Nat} {t : XT} {Q : Int64 → XT → Prop} (ha : a < 64) (hb : b < 64) (hab : a * b ≤ 900) (ea : A 10 = nI a) (eb : A 11 = nI b) (hm : 0 < mn.toInt) (hxa : x < a) (hxb : x < b) (hT : hx_T A B mn (a * b) t) (hK : 23100 ≤ K) (hQ : ∀ v t', hx_T A B mn (a * b) t' → Q v t') : wqX5_clearCorner K t (nI x) Q := by
  obtain ⟨K, rfl⟩ : ∃ K', K = K' + 1 := ⟨K - 1, by omega⟩
  exact hz_ccT_go ha hb hab ea eb hm hxa hxb hQ 1000 0 K t _ (by omega) (by omega) hT rfl rfl
theorem hx_T_B9 {A : Nat → Int32} {B : Nat → Nat → Int32} {mn : Int64} {n : Nat} {t : XT} {g : Nat → Int64} (h : hx_T A B mn n t) : hx_T A B mn n (sB t 9 g) := h
theorem hz_makeDivide {A : Nat → Int32} {B : Nat → Nat → Int32} {mn : Int64} {n x y K : Nat} {t : XT} {Q : XT → Prop} (hx : x < 64) (hy : y < 64) (hT : hx_T A B mn n t) (hK : 1200 ≤ K) (hQ : ∀ t', hx_T A B mn n t' → Q t') : wqX5_makeDivide K t (nI x) (nI y) Q := by
  obtain ⟨K, rfl⟩ : ∃ K', K = K' + 1 := ⟨K - 1, by omega⟩
  have ix := vp_in_nI (n := x) (N := 64) hx (by decide)
  have iy := vp_in_nI (n := y) (N := 64) hy (by decide)
  show wbX5_makeDivide_0 (wpX5_makeDivide K) K t (uI (uI (fun _ => 0) 1 (nI x)) 2 (nI y)) (fun _ => 0) Q
  refine ⟨ix, fun v1 _ => ⟨iy, fun v2 _ => hz_gcd (by omega) (fun v v4 e4 => ⟨fun _ => hQ t hT, fun n4 => ⟨ix, fun v6 _ => ⟨fun q => n4 (e4.trans ((hs_cmp0 _ _).mpr q)), fun v7 _ => ⟨iy, fun v8 _ v9 _ => ⟨iy, fun t10 e10 => ⟨ix, fun t11 e11 => hQ t11 ?_⟩⟩⟩⟩⟩⟩)⟩⟩
  rw [e11, e10]
  exact hx_T_B9 (hx_T_B9 hT)
theorem hz_diag4 {A : Nat → Int32} {B : Nat → Nat → Int32} {mn : Int64} {n w : Nat} {lj : Nat → Int64} {Q : XT → Prop} (hw : w < 64) (hQ : ∀ t', hx_T A B mn n t' → Q t') :
    ∀ (d i K : Nat) (t : XT) (li : Nat → Int32), i + d = 64 → 100 * d + 1300 ≤ K → hx_T A B mn n t → li 1 = nI w → li 2 = nI i → wpX5_diagonalise K 3 t li lj Q := by
  intro d
  induction d with
  | zero =>
    intro i K t li hd hK hT e1 e2
    obtain ⟨K, rfl⟩ : ∃ K', K = K' + 1 := ⟨K - 1, by omega⟩
    show wbX5_diagonalise_3 (wpX5_diagonalise K) K t li lj Q
    exact ⟨fun _ => hQ t hT, fun x => absurd (by rw [e1, e2]; exact nI_le (by omega) (by omega)) x⟩
  | succ d ih =>
    intro i K t li hd hK hT e1 e2
    obtain ⟨K, rfl⟩ : ∃ K', K = K' + 1 := ⟨K - 1, by omega⟩
    have four : ∀ (f j K2 : Nat) (t' : XT) (li' : Nat → Int32), j + f = 65 → 100 * d + f + 1310 ≤ K2 → hx_T A B mn n t' → li' 1 = nI w → li' 2 = nI i → li' 3 = nI j → wpX5_diagonalise K2 4 t' li' lj Q := by
      intro f
      induction f with
      | zero =>
        intro j K2 t' li' hf h a0 a1 a2 a3
        obtain ⟨K2, rfl⟩ : ∃ K', K2 = K' + 1 := ⟨K2 - 1, by omega⟩
        show wbX5_diagonalise_4 (wpX5_diagonalise K2) K2 t' li' lj Q
        exact ⟨fun _ v15 e => ih (i + 1) K2 t' _ (by omega) (by omega) a0 a1 (by show v15 = _; rw [e, a2]; exact hs_inc i), fun x => absurd (by rw [a1, a3]; exact nI_le (by omega) (by omega)) x⟩
      | succ f ih2 =>
        intro j K2 t' li' hf h a0 a1 a2 a3
        obtain ⟨K2, rfl⟩ : ∃ K', K2 = K' + 1 := ⟨K2 - 1, by omega⟩
        show wbX5_diagonalise_4 (wpX5_diagonalise K2) K2 t' li' lj Q
        unfold wbX5_diagonalise_4
        rw [a1, a2, a3]
        refine ⟨fun _ v15 e => ih (i + 1) K2 t' _ (by omega) (by omega) a0 a1 (by show v15 = _; rw [e]; exact hs_inc i), fun lt => ?_⟩
        have hj : j < w := Nat.lt_of_not_le (fun q => lt (nI_le q (by omega)))
        exact hz_makeDivide (by omega) (by omega) a0 (by omega) (fun t16 h16 v17 e17 => ih2 (j + 1) K2 t16 _ (by omega) (by omega) h16 a1 a2 (by show v17 = _; rw [e17]; exact hs_inc j))
    show wbX5_diagonalise_3 (wpX5_diagonalise K) K t li lj Q
    refine ⟨fun _ => hQ t hT, fun _ v13 e13 => ?_⟩
    exact four (65 - (i + 1)) (i + 1) K t _ (by omega) (by omega) hT e1 e2 (by show v13 = _; rw [e13, e2]; exact nI_1 i)
theorem hz_diag2 {A : Nat → Int32} {B : Nat → Nat → Int32} {mn : Int64} {a b w : Nat} {lj : Nat → Int64} {Q : XT → Prop} (ha : a < 64) (hb : b < 64) (hab : a * b ≤ 900) (ea : A 10 = nI a) (eb : A 11 = nI b) (hm : 0 < mn.toInt) (hwa : w ≤ a) (hwb : w ≤ b) (hQ : ∀ t', hx_T A B mn (a * b) t' → Q t') :
    ∀ (d i K : Nat) (t : XT) (li : Nat → Int32), i + d = 64 → d + 24000 ≤ K → hx_T A B mn (a * b) t → li 1 = nI w → li 2 = nI i → wpX5_diagonalise K 2 t li lj Q := by
  intro d
  induction d with
  | zero =>
    intro i K t li hd hK hT e1 e2
    obtain ⟨K, rfl⟩ : ∃ K', K = K' + 1 := ⟨K - 1, by omega⟩
    show wbX5_diagonalise_2 (wpX5_diagonalise K) K t li lj Q
    exact ⟨fun _ => hz_diag4 (by omega) hQ 64 0 K t _ (by omega) (by omega) hT e1 rfl, fun x => absurd (by rw [e1, e2]; exact nI_le (by omega) (by omega)) x⟩
  | succ d ih =>
    intro i K t li hd hK hT e1 e2
    obtain ⟨K, rfl⟩ : ∃ K', K = K' + 1 := ⟨K - 1, by omega⟩
    show wbX5_diagonalise_2 (wpX5_diagonalise K) K t li lj Q
    unfold wbX5_diagonalise_2
    rw [e1, e2]
    refine ⟨fun _ => hz_diag4 (by omega) hQ 64 0 K t _ (by omega) (by omega) hT e1 rfl, fun lt => ?_⟩
    have hi : i < w := Nat.lt_of_not_le (fun q => lt (nI_le q (by omega)))
    exact hz_clearCorner ha hb hab ea eb hm (by omega) (by omega) hT (by omega) (fun v t9 h9 => ⟨vp_in_nI (by omega) (by decide), fun t10 e10 v11 e11 => ih (i + 1) K t10 _ (by omega) (by omega) (by rw [e10]; exact hx_T_B9 h9) e1 (by show v11 = _; rw [e11]; exact hs_inc i)⟩)
theorem hz_diag1 {A : Nat → Int32} {B : Nat → Nat → Int32} {mn : Int64} {a b w : Nat} {lj : Nat → Int64} {Q : XT → Prop} (ha : a < 64) (hb : b < 64) (hab : a * b ≤ 900) (ea : A 10 = nI a) (eb : A 11 = nI b) (hm : 0 < mn.toInt) (hwa : w ≤ a) (hwb : w ≤ b) (hQ : ∀ t', hx_T A B mn (a * b) t' → Q t') :
    ∀ (d i K : Nat) (t : XT) (li : Nat → Int32), i + d = a * b → d + 24100 ≤ K → hx_T A B mn i t → li 1 = nI w → li 2 = nI i → wpX5_diagonalise K 1 t li lj Q := by
  intro d
  induction d with
  | zero =>
    intro i K t li hd hK hT e1 e2
    obtain ⟨K, rfl⟩ : ∃ K', K = K' + 1 := ⟨K - 1, by omega⟩
    obtain rfl : i = a * b := by omega
    have ea1 : t.1 10 = nI a := by rw [hT.1]; exact ea
    have eb1 : t.1 11 = nI b := by rw [hT.1]; exact eb
    show wbX5_diagonalise_1 (wpX5_diagonalise K) K t li lj Q
    intro v2 f2
    rw [ea1, eb1, pk_mul] at f2
    subst f2
    exact ⟨fun _ => hz_diag2 ha hb hab ea eb hm hwa hwb hQ 64 0 K t _ (by omega) (by omega) hT e1 rfl, fun x => absurd (by rw [e2]; exact nI_le (by omega) (by omega)) x⟩
  | succ d ih =>
    intro i K t li hd hK hT e1 e2
    obtain ⟨K, rfl⟩ : ∃ K', K = K' + 1 := ⟨K - 1, by omega⟩
    have ea1 : t.1 10 = nI a := by rw [hT.1]; exact ea
    have eb1 : t.1 11 = nI b := by rw [hT.1]; exact eb
    have hin : vp_in (li 2) 900 := by rw [e2]; exact vp_in_nI (by omega) (by decide)
    show wbX5_diagonalise_1 (wpX5_diagonalise K) K t li lj Q
    intro v2 f2
    rw [ea1, eb1, pk_mul] at f2
    subst f2
    refine ⟨fun x => absurd (show nI (a * b) ≤ nI i by rw [← e2]; exact x) (nI_ge (by omega) (by omega)), fun _ => ⟨hin, fun v4 _ => hz_remainder hT hm (by omega) (fun v hv => ⟨hin, fun t6 e6 v7 e7 => ?_⟩)⟩⟩
    rw [e2, nI_clamp (by omega)] at e6
    refine ih (i + 1) K t6 _ (by omega) (by omega) ?_ e1 (by show v7 = _; rw [e7, e2]; exact hs_inc i)
    rw [e6]
    refine ⟨hT.1, hT.2.1, hT.2.2.1, fun j hj => ?_⟩
    show hx_nm (vp_updL (t.2.2.2 7) i v j)
    by_cases x : j = i
    · rw [show vp_updL (t.2.2.2 7) i v j = v from if_pos x]; exact hv
    · rw [show vp_updL (t.2.2.2 7) i v j = t.2.2.2 7 j from if_neg x]; exact hT.2.2.2 j (by omega)
theorem hz_diagonalise {t : XT} {z : Int32} {m K : Nat} {Q : XT → Prop} (hI : hx_inv t z m) (hm : 0 < (t.2.1 7).toInt) (hK : 26000 ≤ K) (hQ : ∀ t', hx_inv t' z m → Q t') : wqX5_diagonalise K t Q := by
  obtain ⟨K, rfl⟩ : ∃ K', K = K' + 1 := ⟨K - 1, by omega⟩
  obtain ⟨a, b, ha, hb, hab, ea, eb⟩ := hI.2.2.2.2.2.2.2.2.2.2
  show wbX5_diagonalise_0 (wpX5_diagonalise K) K t (fun _ => 0) (fun _ => 0) Q
  intro v1 e1
  have w1 : ∃ w, w ≤ a ∧ w ≤ b ∧ v1 = nI w := by
    rw [e1, ea, eb]
    by_cases c : nI b < nI a
    · exact ⟨b, Nat.le_of_lt ((nI_ltI (by omega) (by omega)).mp c), Nat.le_refl _, if_pos c⟩
    · exact ⟨a, Nat.le_refl _, Nat.le_of_not_lt (fun q => c (nI_lt q (by omega))), if_neg c⟩
  obtain ⟨w, hwa, hwb, ew⟩ := w1
  exact hz_diag1 (A := t.1) (B := t.2.2.1) (mn := t.2.1 7) ha hb hab ea eb hm hwa hwb (fun t' h' => hQ t' (hx_same hI h'.1 h'.2.1)) (a * b) 0 K t _ (by omega) (by omega) ⟨rfl, rfl, rfl, fun i hi => absurd hi (by omega)⟩ ew rfl
theorem hz_to_go {t0 : XT} {z : Int32} {m w : Nat} {lj : Nat → Int64} {Q : Int32 → XT → Prop} (hw : w < 64) (hQ : ∀ n t', n < 64 → hx_inv t' z m → Q (nI n) t') :
    ∀ (d i n K : Nat) (t : XT) (li : Nat → Int32), i + d = 64 → 2 * d + 5 ≤ K → n ≤ i → n ≤ w → hx_inv t z m → li 5 = nI w → li 6 = nI n → li 7 = nI i → wpX0_torsionsOf K 2 t li lj Q := by
  have four : ∀ (n K : Nat) (t : XT) (li : Nat → Int32), 1 ≤ K → n ≤ w → hx_inv t z m → li 6 = nI n → wpX0_torsionsOf K 4 t li lj Q := by
    intro n K t li hK hn hI e6
    obtain ⟨K, rfl⟩ : ∃ K', K = K' + 1 := ⟨K - 1, by omega⟩
    show Q (li 6) t
    rw [e6]; exact hQ n t (by omega) hI
  intro d
  induction d with
  | zero =>
    intro i n K t li hd hK hn hnw hI e5 e6 e7
    obtain ⟨K, rfl⟩ : ∃ K', K = K' + 1 := ⟨K - 1, by omega⟩
    show wbX0_torsionsOf_2 (wpX0_torsionsOf K) K t li lj Q
    exact ⟨fun _ => four n K t li (by omega) hnw hI e6, fun x => absurd (by rw [e5, e7]; exact nI_le (by omega) (by omega)) x⟩
  | succ d ih =>
    intro i n K t li hd hK hn hnw hI e5 e6 e7
    obtain ⟨K, rfl⟩ : ∃ K', K = K' + 2 := ⟨K - 2, by omega⟩
    have nx : ∀ (n' : Nat) (t' : XT) (li' : Nat → Int32), n' ≤ i + 1 → n' ≤ w → hx_inv t' z m → li' 5 = nI w → li' 6 = nI n' → li' 7 = nI i → wpX0_torsionsOf (K + 1) 3 t' li' lj Q := by
      intro n' t' li' c1 c2 c3 c4 c5 c6
      show wbX0_torsionsOf_3 (wpX0_torsionsOf K) K t' li' lj Q
      intro v e
      exact ih (i + 1) n' K t' _ (by omega) (by omega) c1 c2 c3 c4 c5 (by show v = _; rw [e, c6]; exact hs_inc i)
    show wbX0_torsionsOf_2 (wpX0_torsionsOf (K + 1)) (K + 1) t li lj Q
    unfold wbX0_torsionsOf_2
    rw [e5, e6, e7]
    refine ⟨fun _ => four n _ t li (by omega) hnw hI e6, fun lt => ⟨fun _ => four n _ t li (by omega) hnw hI e6, fun _ => ?_⟩⟩
    have hi : i < w := Nat.lt_of_not_le (fun q => lt (nI_le q (by omega)))
    have hin := vp_in_nI (n := i) (N := 64) (by omega) (by decide)
    exact ⟨hin, fun v9 _ v10 _ => ⟨fun _ => nx n t _ (by omega) hnw hI e5 e6 e7, fun _ => ⟨hin, fun v12 _ => ⟨vp_in_nI (by omega) (by decide), fun t13 e13 v14 e14 => nx (n + 1) t13 _ (by omega) (by omega) (by rw [e13]; exact hx_same hI rfl rfl) e5 (by show v14 = _; rw [e14]; exact hs_inc n) e7⟩⟩⟩⟩
/-- the elimination of every table that is filled leaves a minor above 0 -/
def hx_minor (t : XT) (a : Int64) (b c : Int32) (z : Int32) (m K0 : Nat) : Prop := ∀ (K : Nat) (Q : Int32 → XT → Prop), K0 ≤ K → (∀ r t', r < 64 → hx_inv t' z m → 0 < (t'.2.1 7).toInt → Q (nI r) t') → (∀ t', hx_inv t' z m → Q 0 t') → wqX0_rankOf K t a b c Q
theorem hz_torsionsOf {t : XT} {z : Int32} {m K K0 : Nat} {a : Int64} {b c : Int32} {Q : Int32 → XT → Prop} (hP : hx_minor t a (b + 1) c z m K0) (hK : 27000 + K0 ≤ K) (hQ : ∀ n t', n < 64 → hx_inv t' z m → Q (nI n) t') : wqX0_torsionsOf K t a b c Q := by
  obtain ⟨K, rfl⟩ : ∃ K', K = K' + 2 := ⟨K - 2, by omega⟩
  have one : ∀ (t' : XT) (li : Nat → Int32) (lj : Nat → Int64), hx_inv t' z m → wpX0_torsionsOf (K + 1) 1 t' li lj Q := fun t' li lj h => hQ 0 t' (by omega) h
  show wbX0_torsionsOf_0 (wpX0_torsionsOf (K + 1)) (K + 1) t (uI (uI (fun _ => 0) 3 b) 4 c) (uI (fun _ => 0) 1 a) Q
  intro v1 e1
  subst e1
  refine hP (K + 1) _ (by omega) (fun r t2 hr h2 hm => ⟨fun _ => one t2 _ _ h2, fun _ v4 _ => ⟨fun _ => ?_, fun _ => one t2 _ _ h2⟩⟩) (fun t2 h2 => ⟨fun _ => one t2 _ _ h2, fun x => absurd rfl x⟩)
  exact hz_diagonalise h2 hm (by omega) (fun t6 h6 => hz_to_go (t0 := t6) hr hQ 64 0 0 (K + 1) t6 _ (by omega) (by omega) (by omega) (by omega) h6 rfl rfl rfl)
theorem hz_torsion {t : XT} {z : Int32} {m K K0 : Nat} {a b c : Int32} {Q : Int64 → XT → Prop} (hI : hx_inv t z m) (hP : ∀ (s : Int64) (d f : Int32), hx_minor t s d f z m K0) (hK : 27100 + K0 ≤ K) (hQ : ∀ r t', hx_inv t' z m → Q r t') : wqX11_torsion K t a b c Q := by
  obtain ⟨K, rfl⟩ : ∃ K', K = K' + 2 := ⟨K - 2, by omega⟩
  have out : wpX11_torsion (K + 1) 1 t (uI (uI (uI (fun _ => 0) 1 a) 2 b) 3 c) (fun _ => 0) Q := hQ _ t hI
  have two : ∀ (li : Nat → Int32) (lj : Nat → Int64), (-1 : Int32) ≤ b → li 2 = b → wpX11_torsion (K + 1) 2 t li lj Q := by
    intro li lj h1 e2
    show wbX11_torsion_2 (wpX11_torsion K) K t li lj Q
    unfold wbX11_torsion_2
    rw [e2]
    exact hz_torsionsOf (hP _ _ _) (by omega) (fun n t8 hn h8 => ⟨fun h2 => ⟨fun _ => hQ _ t8 h8, fun h3 => ⟨hz_ix (by omega) h1 h2 h3, fun v11 _ => hQ v11 t8 h8⟩⟩, fun _ v12 _ => hQ v12 t8 h8⟩)
  show wbX11_torsion_0 (wpX11_torsion (K + 1)) (K + 1) t (uI (uI (uI (fun _ => 0) 1 a) 2 b) 3 c) (fun _ => 0) Q
  exact hz_isDim (by omega) (fun d hd ea => ⟨fun x => absurd x (by decide), fun _ => ⟨fun _ => out, fun _ => ⟨fun _ => out, fun _ => ⟨fun h1 => hz_basis (by omega) (fun v => ⟨fun _ => two _ _ h1 rfl, fun _ => two _ _ h1 rfl⟩), fun _ => out⟩⟩⟩⟩) ⟨fun _ => out, fun x => absurd rfl x⟩
