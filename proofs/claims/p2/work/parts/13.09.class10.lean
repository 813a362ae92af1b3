/-! ===== the class, pure: TORSION by remainders of a minor above 0 ===== -/
theorem hz_rem64n {x a : Int64} (hx : x.toInt < 0) (ha : 0 < a.toInt) : (x - x / a * a).toInt = -((-x.toInt) % a.toInt) := by
  have b1 := Int64.le_toInt x
  obtain ⟨n, hn⟩ : ∃ n : Int, n = -x.toInt := ⟨_, rfl⟩
  have xe : x.toInt = -n := by omega
  have q0 : 0 ≤ n / a.toInt := Int.ediv_nonneg (by omega) (Int.le_of_lt ha)
  have q1 : n / a.toInt ≤ n := Int.ediv_le_self _ (by omega)
  have q2 : n / a.toInt * a.toInt ≤ n := Int.ediv_mul_le _ (by omega)
  have q3 : 0 ≤ n / a.toInt * a.toInt := Int.mul_nonneg q0 (Int.le_of_lt ha)
  have e1 : (x / a).toInt = -(n / a.toInt) := by
    rw [Int64.toInt_div, xe, Int.neg_tdiv, Int.tdiv_eq_ediv_of_nonneg (by omega)]
    exact Int.bmod_eq_of_le (by omega) (by omega)
  have e2 : (x / a * a).toInt = -(n / a.toInt * a.toInt) := by
    rw [Int64.toInt_mul, e1, Int.neg_mul]; exact Int.bmod_eq_of_le (by omega) (by omega)
  rw [Int64.toInt_sub, e2, xe, Int.bmod_eq_of_le (by omega) (by omega), Int.neg_neg, Int.emod_def, Int.mul_comm a.toInt]
  omega
theorem hz_xor0 {x y : Int64} (hy : 0 < y.toInt) : x ^^^ y < 0 ↔ x.toInt < 0 := by
  rw [Int64.lt_iff_toInt_lt]
  show (x ^^^ y).toBitVec.toInt < 0 ↔ x.toBitVec.toInt < 0
  have h : ∀ v : BitVec 64, v.toInt < 0 ↔ v.msb = true := fun v => by
    rw [BitVec.msb_eq_toInt]; exact (decide_eq_true_iff).symm
  have hm : y.toBitVec.msb = false := by
    rw [BitVec.msb_eq_toInt]
    have hy : 0 < y.toBitVec.toInt := hy
    exact decide_eq_false (by omega)
  rw [h, h, Int64.toBitVec_xor, BitVec.msb_xor, hm, Bool.xor_false]
theorem hz_pos64 {y : Int64} : 0 < y ↔ 0 < y.toInt := by
  rw [Int64.lt_iff_toInt_lt]; exact Iff.rfl
theorem hz_floorMod {x y : Int64} {K : Nat} {Q : Int64 → Prop} (hy : 0 < y.toInt) (hK : 2 ≤ K) (h : ∀ v : Int64, 0 ≤ v.toInt → v.toInt < y.toInt → Q v) : wqJ9_floorMod_f86c9 K x y Q := by
  obtain ⟨K, rfl⟩ : ∃ K', K = K' + 2 := ⟨K - 2, by omega⟩
  have y0 : ¬ y = 0 := fun q => by rw [q] at hy; exact absurd hy (by decide)
  show wbJ9_floorMod_f86c9_0 (wpJ9_floorMod_f86c9 (K + 1)) (K + 1) (fun _ => 0) (uI (uI (fun _ => 0) 0 x) 2 y) Q
  refine ⟨y0, fun v1 e1 v2 e2 v3 e3 => ⟨fun ge => ?_, fun lt v5 e5 => ⟨fun z5 => ?_, fun n5 v7 e7 => ?_⟩⟩⟩
  · have ge : ¬ v2 < 0 := (hs_cmpge v2 0).mp (by rw [← e3]; exact ge)
    have e2 : v2 = x ^^^ y := e2
    rw [e2, hz_xor0 hy] at ge
    have e1 : v1 = x - x / y * y := e1
    have r := hq_rem64 (x := x) (a := y) (by omega) hy
    rw [← e1] at r
    exact h v1 (by rw [r]; exact Int.emod_nonneg _ (by omega)) (by rw [r]; exact Int.emod_lt_of_pos _ hy)
  all_goals
    have lt : v2 < 0 := Classical.byContradiction (fun q => lt (by rw [e3]; exact (hs_cmpge v2 0).mpr q))
    have e2 : v2 = x ^^^ y := e2
    rw [e2, hz_xor0 hy] at lt
    have e1 : v1 = x - x / y * y := e1
    have r := hz_rem64n (x := x) (a := y) lt hy
    rw [← e1] at r
    have r1 := Int.emod_nonneg (-x.toInt) (show y.toInt ≠ 0 by omega)
    have r2 := Int.emod_lt_of_pos (-x.toInt) hy
  · have z : v1 = 0 := (hs_cmp0 v1 0).mp (e5.symm.trans z5)
    refine h v1 (by rw [z]; decide) (by rw [z]; exact hy)
  · have nz : ¬ v1 = 0 := fun q => n5 (e5.trans ((hs_cmp0 v1 0).mpr q))
    have nz : ¬ v1.toInt = 0 := fun q => nz (Int64.toInt_inj.mp q)
    have b2 := Int64.toInt_lt y
    have e7 : v7 = v1 + y := e7
    have f7 : v7.toInt = v1.toInt + y.toInt := by
      rw [e7, Int64.toInt_add]; exact Int.bmod_eq_of_le (by omega) (by omega)
    exact h v7 (by omega) (by omega)
theorem hz_floorDiv {x y : Int64} {K : Nat} {Q : Int64 → Prop} (hy : ¬ y = 0) (hK : 2 ≤ K) (h : ∀ v : Int64, Q v) : wqJ9_floorDiv_f86c9 K x y Q := by
  obtain ⟨K, rfl⟩ : ∃ K', K = K' + 2 := ⟨K - 2, by omega⟩
  exact ⟨hy, fun v1 _ v2 _ v3 _ => ⟨fun _ => h _, fun _ v5 _ v6 _ => ⟨fun _ => h _, fun _ v8 _ => h _⟩⟩⟩
/-- neither too small to be turned about -/
def hx_nm (v : Int64) : Prop := ¬ v.toInt = -9223372036854775808
theorem hz_twice {v : Int64} (h0 : 0 < v.toInt) : ¬ 2 * v = 0 := by
  intro q
  have b := Int64.toInt_lt v
  have e : (2 * v).toInt = 0 := by rw [q]; decide
  rw [Int64.toInt_mul, show (2 : Int64).toInt = 2 by decide, Int.bmod_def] at e
  have p : ((2 ^ 64 : Nat) : Int) = 18446744073709551616 := by decide
  rw [p] at e
  split at e <;> omega
theorem hz_nearest {x y : Int64} {K : Nat} {Q : Int64 → Prop} (hy : hx_nm y) (hK : 4 ≤ K) (h : ∀ v : Int64, Q v) : wqX5_nearest K x y Q := by
  obtain ⟨K, rfl⟩ : ∃ K', K = K' + 1 := ⟨K - 1, by omega⟩
  show wbX5_nearest_0 (wpX5_nearest K) K (fun _ => 0) (uI (uI (fun _ => 0) 0 x) 2 y) Q
  refine fun v1 e1 => ⟨fun n1 v3 e3 v4 _ v5 _ v6 e6 => ?_, fun _ => h _⟩
  have y0 : ¬ y = 0 := fun q => n1 (e1.trans ((hs_cmp0 y 0).mpr q))
  have e3 : v3 = (if 0 < y then y else -y) := e3
  have p3 : 0 < v3.toInt := by
    by_cases c : 0 < y
    · rw [e3, if_pos c]; exact hz_pos64.mp c
    · have c' : ¬ 0 < y.toInt := fun q => c (hz_pos64.mpr q)
      have y1 : ¬ y.toInt = 0 := fun q => y0 (Int64.toInt_inj.mp q)
      have b := Int64.le_toInt y
      have hy : ¬ y.toInt = -9223372036854775808 := hy
      rw [e3, if_neg c, Int64.toInt_neg, Int.bmod_eq_of_le (by omega) (by omega)]
      omega
  exact hz_floorDiv (by rw [e6]; exact hz_twice p3) (by omega) (fun v => fun v8 _ => ⟨fun _ => h _, fun _ v10 _ => h _⟩)
/-- the state of a table by remainders: n cells -/
def hx_T (A : Nat → Int32) (B : Nat → Nat → Int32) (mn : Int64) (n : Nat) (t : XT) : Prop := t.1 = A ∧ t.2.2.1 = B ∧ t.2.1 7 = mn ∧ ∀ i, i < n → hx_nm (t.2.2.2 7 i)
theorem hx_T_put {A : Nat → Int32} {B : Nat → Nat → Int32} {mn v : Int64} {n i : Nat} {t : XT} (h : hx_T A B mn n t) (hv : hx_nm v) : hx_T A B mn n (sB t 7 (vp_updL (t.2.2.2 7) i v)) := by
  refine ⟨h.1, h.2.1, h.2.2.1, fun j hj => ?_⟩
  show hx_nm (vp_updL (t.2.2.2 7) i v j)
  by_cases x : j = i
  · rw [show vp_updL (t.2.2.2 7) i v j = v from if_pos x]; exact hv
  · rw [show vp_updL (t.2.2.2 7) i v j = t.2.2.2 7 j from if_neg x]; exact h.2.2.2 j hj
theorem hz_remainder {A : Nat → Int32} {B : Nat → Nat → Int32} {mn x : Int64} {n K : Nat} {t : XT} {Q : Int64 → XT → Prop} (hT : hx_T A B mn n t) (hm : 0 < mn.toInt) (hK : 4 ≤ K) (h : ∀ v, hx_nm v → Q v t) : wqX5_remainder K t x Q := by
  obtain ⟨K, rfl⟩ : ∃ K', K = K' + 1 := ⟨K - 1, by omega⟩
  have b := Int64.toInt_lt mn
  show wbX5_remainder_0 (wpX5_remainder K) K t (fun _ => 0) (uI (fun _ => 0) 1 x) Q
  unfold wbX5_remainder_0
  rw [hT.2.2.1]
  refine fun v1 e1 => ⟨fun _ => hz_floorMod hm (by omega) (fun v h0 h1 => fun v4 _ v5 _ => ⟨fun _ => h v (fun q => by omega), fun _ v7 e7 => h v7 (fun q => ?_)⟩), fun ng => ?_⟩
  · have f7 : v7.toInt = v.toInt - mn.toInt := by
      rw [e7, Int64.toInt_sub]; exact Int.bmod_eq_of_le (by omega) (by omega)
    omega
  · exfalso
    refine ng ?_
    rw [e1]
    unfold lg_cmp
    rw [if_pos (show mn > 0 from hz_pos64.mpr hm)]
    decide
theorem hz_srT_go {A : Nat → Int32} {B : Nat → Nat → Int32} {mn : Int64} {a b x y : Nat} {lj : Nat → Int64} {Q : XT → Prop} (ha : a < 64) (hb : b < 64) (hab : a * b ≤ 900) (eb : A 11 = nI b) (hx : x < a) (hy : y < a) (hQ : ∀ t', hx_T A B mn (a * b) t' → Q t') :
    ∀ (d j K : Nat) (t : XT) (li : Nat → Int32), j + d = 64 → d + 5 ≤ K → hx_T A B mn (a * b) t → li 2 = nI x → li 3 = nI y → li 4 = nI j → wpX5_swapRows_c30 K 1 t li lj Q := by
  intro d
  induction d with
  | zero =>
    intro j K t li hd hK hT e2 e3 e4
    obtain ⟨K, rfl⟩ : ∃ K', K = K' + 1 := ⟨K - 1, by omega⟩
    have eb : t.1 11 = nI b := by rw [hT.1]; exact eb
    show wbX5_swapRows_c30_1 (wpX5_swapRows_c30 K) K t li lj Q
    exact ⟨fun _ => hQ t hT, fun x => absurd (by rw [eb, e4]; exact nI_le (by omega) (by omega)) x⟩
  | succ d ih =>
    intro j K t li hd hK hT e2 e3 e4
    obtain ⟨K, rfl⟩ : ∃ K', K = K' + 1 := ⟨K - 1, by omega⟩
    have eb : t.1 11 = nI b := by rw [hT.1]; exact eb
    show wbX5_swapRows_c30_1 (wpX5_swapRows_c30 K) K t li lj Q
    unfold wbX5_swapRows_c30_1
    rw [eb, e2, e3, e4]
    refine ⟨fun _ => hQ t hT, fun lt => ⟨fun _ => hQ t hT, fun _ v3 f3 v4 f4 => ?_⟩⟩
    have hj : j < b := Nat.lt_of_not_le (fun q => lt (nI_le q (by omega)))
    have f4 := hz_cellI f3 f4
    subst f4
    have hxj := hx_at hx hj hab
    have hyj := hx_at hy hj hab
    have lxj : x * b + j < a * b := hx_lt hx hj
    have lyj : y * b + j < a * b := hx_lt hy hj
    refine ⟨vp_in_nI hxj (by decide), fun v5 e5 v6 f6 v7 f7 v8 f8 v9 f9 => ?_⟩
    have f7 := hz_cellI f6 f7
    have f9 := hz_cellI f8 f9
    subst f7 f9
    refine ⟨vp_in_nI hyj (by decide), fun v10 e10 => ⟨vp_in_nI hxj (by decide), fun t11 e11 v12 f12 v13 f13 => ?_⟩⟩
    have eb' : t11.1 11 = nI b := by rw [e11]; exact eb
    rw [eb'] at f12
    have f13 := hz_cellI f12 f13
    subst f13
    rw [nI_clamp (by omega)] at e5 e10
    refine ⟨vp_in_nI hyj (by decide), fun t14 e14 v15 e15 => ih (j + 1) K t14 _ (by omega) (by omega) ?_ e2 e3 (by show v15 = _; rw [e15]; exact hs_inc j)⟩
    rw [e14, e11]
    exact hx_T_put (hx_T_put hT (by rw [e10]; exact hT.2.2.2 _ lyj)) (by rw [e5]; exact hT.2.2.2 _ lxj)
theorem hz_scT_go {A : Nat → Int32} {B : Nat → Nat → Int32} {mn : Int64} {a b x y : Nat} {lj : Nat → Int64} {Q : XT → Prop} (ha : a < 64) (hb : b < 64) (hab : a * b ≤ 900) (ea : A 10 = nI a) (eb : A 11 = nI b) (hx : x < b) (hy : y < b) (hQ : ∀ t', hx_T A B mn (a * b) t' → Q t') :
    ∀ (d j K : Nat) (t : XT) (li : Nat → Int32), j + d = 64 → d + 5 ≤ K → hx_T A B mn (a * b) t → li 1 = nI x → li 2 = nI y → li 3 = nI j → wpX5_swapColumns K 1 t li lj Q := by
  intro d
  induction d with
  | zero =>
    intro j K t li hd hK hT e1 e2 e3
    obtain ⟨K, rfl⟩ : ∃ K', K = K' + 1 := ⟨K - 1, by omega⟩
    have ea : t.1 10 = nI a := by rw [hT.1]; exact ea
    show wbX5_swapColumns_1 (wpX5_swapColumns K) K t li lj Q
    exact ⟨fun _ => hQ t hT, fun x => absurd (by rw [ea, e3]; exact nI_le (by omega) (by omega)) x⟩
  | succ d ih =>
    intro j K t li hd hK hT e1 e2 e3
    obtain ⟨K, rfl⟩ : ∃ K', K = K' + 1 := ⟨K - 1, by omega⟩
    have ea : t.1 10 = nI a := by rw [hT.1]; exact ea
    have eb : t.1 11 = nI b := by rw [hT.1]; exact eb
    show wbX5_swapColumns_1 (wpX5_swapColumns K) K t li lj Q
    unfold wbX5_swapColumns_1
    rw [ea, eb, e1, e2, e3]
    refine ⟨fun _ => hQ t hT, fun lt => ⟨fun _ => hQ t hT, fun _ v3 f3 v4 f4 => ?_⟩⟩
    have hj : j < a := Nat.lt_of_not_le (fun q => lt (nI_le q (by omega)))
    have f4 := hz_cellI f3 f4
    subst f4
    have hxj := hx_at hj hx hab
    have hyj := hx_at hj hy hab
    have lxj : j * b + x < a * b := hx_lt hj hx
    have lyj : j * b + y < a * b := hx_lt hj hy
    refine ⟨vp_in_nI hxj (by decide), fun v5 e5 v6 f6 v7 f7 v8 f8 v9 f9 => ?_⟩
    have f7 := hz_cellI f6 f7
    have f9 := hz_cellI f8 f9
    subst f7 f9
    refine ⟨vp_in_nI hyj (by decide), fun v10 e10 => ⟨vp_in_nI hxj (by decide), fun t11 e11 v12 f12 v13 f13 => ?_⟩⟩
    have eb' : t11.1 11 = nI b := by rw [e11]; exact eb
    rw [eb'] at f12
    have f13 := hz_cellI f12 f13
    subst f13
    rw [nI_clamp (by omega)] at e5 e10
    refine ⟨vp_in_nI hyj (by decide), fun t14 e14 v15 e15 => ih (j + 1) K t14 _ (by omega) (by omega) ?_ e1 e2 (by show v15 = _; rw [e15]; exact hs_inc j)⟩
    rw [e14, e11]
    exact hx_T_put (hx_T_put hT (by rw [e10]; exact hT.2.2.2 _ lyj)) (by rw [e5]; exact hT.2.2.2 _ lxj)
theorem hz_rrT_go {A : Nat → Int32} {B : Nat → Nat → Int32} {mn : Int64} {a b x : Nat} {Q : Int32 → XT → Prop} (ha : a < 64) (hb : b < 64) (hab : a * b ≤ 900) (ea : A 10 = nI a) (eb : A 11 = nI b) (hm : 0 < mn.toInt) (hxa : x < a) (hxb : x < b) (hQ : ∀ r t', hx_T A B mn (a * b) t' → Q r t') :
    ∀ (d r K : Nat) (t : XT) (li : Nat → Int32) (lj : Nat → Int64), r + d = 64 → 80 * d + 20 ≤ K → hx_T A B mn (a * b) t → (li 2 = 0 ∨ li 2 = 1) → li 1 = nI x → li 3 = nI r → wpX5_reduceRows K 1 t li lj Q := by
  intro d
  induction d with
  | zero =>
    intro r K t li lj hd hK hT e2 e1 e3
    obtain ⟨K, rfl⟩ : ∃ K', K = K' + 1 := ⟨K - 1, by omega⟩
    have ea : t.1 10 = nI a := by rw [hT.1]; exact ea
    show wbX5_reduceRows_1 (wpX5_reduceRows K) K t li lj Q
    exact ⟨fun _ => ⟨e2, hQ _ t hT⟩, fun x => absurd (by rw [ea, e3]; exact nI_le (by omega) (by omega)) x⟩
  | succ d ih =>
    intro r K t li lj hd hK hT e2 e1 e3
    obtain ⟨K, rfl⟩ : ∃ K', K = K' + 1 := ⟨K - 1, by omega⟩
    by_cases hr : r < a
    · have five : ∀ (K2 : Nat) (t' : XT) (li' : Nat → Int32) (lj' : Nat → Int64), 80 * d + 21 ≤ K2 → hx_T A B mn (a * b) t' → (li' 100 = 0 ∨ li' 100 = 1) → li' 1 = nI x → li' 3 = nI r → wpX5_reduceRows K2 5 t' li' lj' Q := by
        intro K2 t' li' lj' h a1 a2 a3 a4
        obtain ⟨K2, rfl⟩ : ∃ K', K2 = K' + 1 := ⟨K2 - 1, by omega⟩
        show wbX5_reduceRows_5 (wpX5_reduceRows K2) K2 t' li' lj' Q
        intro v e
        exact ih (r + 1) K2 t' _ _ (by omega) (by omega) a1 a2 a3 (by show v = _; rw [e, a4]; exact hs_inc r)
      have four : ∀ (K2 : Nat) (t' : XT) (li' : Nat → Int32) (lj' : Nat → Int64), 80 * d + 22 ≤ K2 → hx_T A B mn (a * b) t' → li' 1 = nI x → li' 3 = nI r → wpX5_reduceRows K2 4 t' li' lj' Q := by
        intro K2 t' li' lj' h a1 a3 a4
        obtain ⟨K2, rfl⟩ : ∃ K', K2 = K' + 1 := ⟨K2 - 1, by omega⟩
        show wpX5_reduceRows K2 5 t' (uI li' 100 0) lj' Q
        exact five K2 t' _ _ (by omega) a1 (Or.inl rfl) a3 a4
      have three : ∀ (K2 : Nat) (t' : XT) (li' : Nat → Int32) (lj' : Nat → Int64), 80 * d + 23 ≤ K2 → hx_T A B mn (a * b) t' → li' 1 = nI x → li' 3 = nI r → wpX5_reduceRows K2 3 t' li' lj' Q := by
        intro K2 t' li' lj' h a1 a3 a4
        obtain ⟨K2, rfl⟩ : ∃ K', K2 = K' + 1 := ⟨K2 - 1, by omega⟩
        have eb' : t'.1 11 = nI b := by rw [a1.1]; exact eb
        show wbX5_reduceRows_3 (wpX5_reduceRows K2) K2 t' li' lj' Q
        refine ⟨fun _ => four K2 t' _ _ (by omega) a1 a3 a4, fun _ v26 f26 v27 f27 => ?_⟩
        rw [a4, eb'] at f26
        rw [a3] at f27
        have f27 := hz_cellI f26 f27
        subst f27
        exact ⟨vp_in_nI (hx_at hr hxb hab) (by decide), fun v28 _ v29 _ => ⟨fun _ => four K2 t' _ _ (by omega) a1 a3 a4, fun _ => five K2 t' _ _ (by omega) a1 (Or.inr rfl) a3 a4⟩⟩
      have two : ∀ (f j K2 : Nat) (t' : XT) (li' : Nat → Int32) (lj' : Nat → Int64), j + f = 64 → 80 * d + f + 24 ≤ K2 → hx_T A B mn (a * b) t' → li' 1 = nI x → li' 3 = nI r → li' 6 = nI j → wpX5_reduceRows K2 2 t' li' lj' Q := by
        intro f
        induction f with
        | zero =>
          intro j K2 t' li' lj' hf h a1 a3 a4 a6
          obtain ⟨K2, rfl⟩ : ∃ K', K2 = K' + 1 := ⟨K2 - 1, by omega⟩
          have eb' : t'.1 11 = nI b := by rw [a1.1]; exact eb
          show wbX5_reduceRows_2 (wpX5_reduceRows K2) K2 t' li' lj' Q
          exact ⟨fun _ => three K2 t' _ _ (by omega) a1 a3 a4, fun x => absurd (by rw [eb', a6]; exact nI_le (by omega) (by omega)) x⟩
        | succ f ih2 =>
          intro j K2 t' li' lj' hf h a1 a3 a4 a6
          obtain ⟨K2, rfl⟩ : ∃ K', K2 = K' + 1 := ⟨K2 - 1, by omega⟩
          have eb' : t'.1 11 = nI b := by rw [a1.1]; exact eb
          show wbX5_reduceRows_2 (wpX5_reduceRows K2) K2 t' li' lj' Q
          unfold wbX5_reduceRows_2
          rw [eb', a3, a4, a6]
          refine ⟨fun _ => three K2 t' _ _ (by omega) a1 a3 a4, fun lt v12 _ => ⟨fun _ => three K2 t' _ _ (by omega) a1 a3 a4, fun _ v14 f14 v15 f15 => ?_⟩⟩
          have hj : j < b := Nat.lt_of_not_le (fun q => lt (nI_le q (by omega)))
          have f15 := hz_cellI f14 f15
          subst f15
          refine ⟨vp_in_nI (hx_at hr hj hab) (by decide), fun v16 _ v17 f17 v18 f18 => ?_⟩
          have f18 := hz_cellI f17 f18
          subst f18
          refine ⟨vp_in_nI (hx_at hxa hj hab) (by decide), fun v19 _ v20 _ v21 _ => hz_remainder a1 hm (by omega) (fun v hv => ⟨vp_in_nI (hx_at hr hj hab) (by decide), fun t23 e23 v24 e24 => ?_⟩)⟩
          exact ih2 (j + 1) K2 t23 _ _ (by omega) (by omega) (by rw [e23]; exact hx_T_put a1 hv) a3 a4 (by show v24 = _; rw [e24]; exact hs_inc j)
      have ea1 : t.1 10 = nI a := by rw [hT.1]; exact ea
      have eb1 : t.1 11 = nI b := by rw [hT.1]; exact eb
      show wbX5_reduceRows_1 (wpX5_reduceRows K) K t li lj Q
      unfold wbX5_reduceRows_1
      rw [ea1, eb1, e1, e3]
      refine ⟨fun _ => ⟨e2, hQ _ t hT⟩, fun _ v4 f4 v5 f5 => ?_⟩
      have f5 := hz_cellI f4 f5
      subst f5
      refine ⟨vp_in_nI (hx_at hr hxb hab) (by decide), fun v6 _ v7 f7 v8 f8 => ?_⟩
      have f8 := hz_cellI f7 f8
      subst f8
      refine ⟨vp_in_nI (hx_at hxa hxb hab) (by decide), fun v9 e9 => ?_⟩
      have hl := hx_at hxa hxb hab
      rw [nI_clamp (by omega)] at e9
      exact hz_nearest (by rw [e9]; exact hT.2.2.2 _ (hx_lt hxa hxb)) (by omega) (fun v => two (64 - x) x K t _ _ (by omega) (by omega) hT e1 e3 rfl)
    · have ea : t.1 10 = nI a := by rw [hT.1]; exact ea
      show wbX5_reduceRows_1 (wpX5_reduceRows K) K t li lj Q
      exact ⟨fun _ => ⟨e2, hQ _ t hT⟩, fun x => absurd (by rw [ea, e3]; exact nI_le (by omega) (by omega)) x⟩
theorem hz_rcT_go {A : Nat → Int32} {B : Nat → Nat → Int32} {mn : Int64} {a b x : Nat} {Q : Int32 → XT → Prop} (ha : a < 64) (hb : b < 64) (hab : a * b ≤ 900) (ea : A 10 = nI a) (eb : A 11 = nI b) (hm : 0 < mn.toInt) (hxa : x < a) (hxb : x < b) (hQ : ∀ r t', hx_T A B mn (a * b) t' → Q r t') :
    ∀ (d r K : Nat) (t : XT) (li : Nat → Int32) (lj : Nat → Int64), r + d = 64 → 80 * d + 20 ≤ K → hx_T A B mn (a * b) t → (li 2 = 0 ∨ li 2 = 1) → li 1 = nI x → li 3 = nI r → wpX5_reduceColumns K 1 t li lj Q := by
  intro d
  induction d with
  | zero =>
    intro r K t li lj hd hK hT e2 e1 e3
    obtain ⟨K, rfl⟩ : ∃ K', K = K' + 1 := ⟨K - 1, by omega⟩
    have eb : t.1 11 = nI b := by rw [hT.1]; exact eb
    show wbX5_reduceColumns_1 (wpX5_reduceColumns K) K t li lj Q
    exact ⟨fun _ => ⟨e2, hQ _ t hT⟩, fun x => absurd (by rw [eb, e3]; exact nI_le (by omega) (by omega)) x⟩
  | succ d ih =>
    intro r K t li lj hd hK hT e2 e1 e3
    obtain ⟨K, rfl⟩ : ∃ K', K = K' + 1 := ⟨K - 1, by omega⟩
    by_cases hr : r < b
    · have five : ∀ (K2 : Nat) (t' : XT) (li' : Nat → Int32) (lj' : Nat → Int64), 80 * d + 21 ≤ K2 → hx_T A B mn (a * b) t' → (li' 100 = 0 ∨ li' 100 = 1) → li' 1 = nI x → li' 3 = nI r → wpX5_reduceColumns K2 5 t' li' lj' Q := by
        intro K2 t' li' lj' h a1 a2 a3 a4
        obtain ⟨K2, rfl⟩ : ∃ K', K2 = K' + 1 := ⟨K2 - 1, by omega⟩
        show wbX5_reduceColumns_5 (wpX5_reduceColumns K2) K2 t' li' lj' Q
        intro v e
        exact ih (r + 1) K2 t' _ _ (by omega) (by omega) a1 a2 a3 (by show v = _; rw [e, a4]; exact hs_inc r)
      have four : ∀ (K2 : Nat) (t' : XT) (li' : Nat → Int32) (lj' : Nat → Int64), 80 * d + 22 ≤ K2 → hx_T A B mn (a * b) t' → li' 1 = nI x → li' 3 = nI r → wpX5_reduceColumns K2 4 t' li' lj' Q := by
        intro K2 t' li' lj' h a1 a3 a4
        obtain ⟨K2, rfl⟩ : ∃ K', K2 = K' + 1 := ⟨K2 - 1, by omega⟩
        show wpX5_reduceColumns K2 5 t' (uI li' 100 0) lj' Q
        exact five K2 t' _ _ (by omega) a1 (Or.inl rfl) a3 a4
      have three : ∀ (K2 : Nat) (t' : XT) (li' : Nat → Int32) (lj' : Nat → Int64), 80 * d + 23 ≤ K2 → hx_T A B mn (a * b) t' → li' 1 = nI x → li' 3 = nI r → wpX5_reduceColumns K2 3 t' li' lj' Q := by
        intro K2 t' li' lj' h a1 a3 a4
        obtain ⟨K2, rfl⟩ : ∃ K', K2 = K' + 1 := ⟨K2 - 1, by omega⟩
        have eb' : t'.1 11 = nI b := by rw [a1.1]; exact eb
        show wbX5_reduceColumns_3 (wpX5_reduceColumns K2) K2 t' li' lj' Q
        refine ⟨fun _ => four K2 t' _ _ (by omega) a1 a3 a4, fun _ v26 f26 v27 f27 => ?_⟩
        rw [a3, eb'] at f26
        rw [a4] at f27
        have f27 := hz_cellI f26 f27
        subst f27
        exact ⟨vp_in_nI (hx_at hxa hr hab) (by decide), fun v28 _ v29 _ => ⟨fun _ => four K2 t' _ _ (by omega) a1 a3 a4, fun _ => five K2 t' _ _ (by omega) a1 (Or.inr rfl) a3 a4⟩⟩
      have two : ∀ (f j K2 : Nat) (t' : XT) (li' : Nat → Int32) (lj' : Nat → Int64), j + f = 64 → 80 * d + f + 24 ≤ K2 → hx_T A B mn (a * b) t' → li' 1 = nI x → li' 3 = nI r → li' 6 = nI j → wpX5_reduceColumns K2 2 t' li' lj' Q := by
        intro f
        induction f with
        | zero =>
          intro j K2 t' li' lj' hf h a1 a3 a4 a6
          obtain ⟨K2, rfl⟩ : ∃ K', K2 = K' + 1 := ⟨K2 - 1, by omega⟩
          have ea' : t'.1 10 = nI a := by rw [a1.1]; exact ea
          show wbX5_reduceColumns_2 (wpX5_reduceColumns K2) K2 t' li' lj' Q
          exact ⟨fun _ => three K2 t' _ _ (by omega) a1 a3 a4, fun x => absurd (by rw [ea', a6]; exact nI_le (by omega) (by omega)) x⟩
        | succ f ih2 =>
          intro j K2 t' li' lj' hf h a1 a3 a4 a6
          obtain ⟨K2, rfl⟩ : ∃ K', K2 = K' + 1 := ⟨K2 - 1, by omega⟩
          have ea' : t'.1 10 = nI a := by rw [a1.1]; exact ea
          have eb' : t'.1 11 = nI b := by rw [a1.1]; exact eb
          show wbX5_reduceColumns_2 (wpX5_reduceColumns K2) K2 t' li' lj' Q
          unfold wbX5_reduceColumns_2
          rw [ea', eb', a3, a4, a6]
          refine ⟨fun _ => three K2 t' _ _ (by omega) a1 a3 a4, fun lt v12 _ => ⟨fun _ => three K2 t' _ _ (by omega) a1 a3 a4, fun _ v14 f14 v15 f15 => ?_⟩⟩
          have hj : j < a := Nat.lt_of_not_le (fun q => lt (nI_le q (by omega)))
          have f15 := hz_cellI f14 f15
          subst f15
          refine ⟨vp_in_nI (hx_at hj hr hab) (by decide), fun v16 _ v17 f17 v18 f18 => ?_⟩
          have f18 := hz_cellI f17 f18
          subst f18
          refine ⟨vp_in_nI (hx_at hj hxb hab) (by decide), fun v19 _ v20 _ v21 _ => hz_remainder a1 hm (by omega) (fun v hv => ⟨vp_in_nI (hx_at hj hr hab) (by decide), fun t23 e23 v24 e24 => ?_⟩)⟩
          exact ih2 (j + 1) K2 t23 _ _ (by omega) (by omega) (by rw [e23]; exact hx_T_put a1 hv) a3 a4 (by show v24 = _; rw [e24]; exact hs_inc j)
      have ea1 : t.1 10 = nI a := by rw [hT.1]; exact ea
      have eb1 : t.1 11 = nI b := by rw [hT.1]; exact eb
      show wbX5_reduceColumns_1 (wpX5_reduceColumns K) K t li lj Q
      unfold wbX5_reduceColumns_1
      rw [eb1, e1, e3]
      refine ⟨fun _ => ⟨e2, hQ _ t hT⟩, fun _ v4 f4 v5 f5 => ?_⟩
      have f5 := hz_cellI f4 f5
      subst f5
      refine ⟨vp_in_nI (hx_at hxa hr hab) (by decide), fun v6 _ v7 f7 v8 f8 => ?_⟩
      have f8 := hz_cellI f7 f8
      subst f8
      refine ⟨vp_in_nI (hx_at hxa hxb hab) (by decide), fun v9 e9 => ?_⟩
      have hl := hx_at hxa hxb hab
      rw [nI_clamp (by omega)] at e9
      exact hz_nearest (by rw [e9]; exact hT.2.2.2 _ (hx_lt hxa hxb)) (by omega) (fun v => two (64 - x) x K t _ _ (by omega) (by omega) hT e1 e3 rfl)
    · have eb : t.1 11 = nI b := by rw [hT.1]; exact eb
      show wbX5_reduceColumns_1 (wpX5_reduceColumns K) K t li lj Q
      exact ⟨fun _ => ⟨e2, hQ _ t hT⟩, fun x => absurd (by rw [eb, e3]; exact nI_le (by omega) (by omega)) x⟩
theorem hz_swapRowsT {A : Nat → Int32} {B : Nat → Nat → Int32} {mn : Int64} {a b x y K : Nat} {t : XT} {Q : XT → Prop} (ha : a < 64) (hb : b < 64) (hab : a * b ≤ 900) (eb : A 11 = nI b) (hx : x < a) (hy : y < a) (hT : hx_T A B mn (a * b) t) (hK : 100 ≤ K) (hQ : ∀ t', hx_T A B mn (a * b) t' → Q t') : wqX5_swapRows_c30 K t (nI x) (nI y) Q := by
  obtain ⟨K, rfl⟩ : ∃ K', K = K' + 1 := ⟨K - 1, by omega⟩
  exact hz_srT_go ha hb hab eb hx hy hQ 64 0 K t _ (by omega) (by omega) hT rfl rfl rfl
theorem hz_swapColumnsT {A : Nat → Int32} {B : Nat → Nat → Int32} {mn : Int64} {a b x y K : Nat} {t : XT} {Q : XT → Prop} (ha : a < 64) (hb : b < 64) (hab : a * b ≤ 900) (ea : A 10 = nI a) (eb : A 11 = nI b) (hx : x < b) (hy : y < b) (hT : hx_T A B mn (a * b) t) (hK : 100 ≤ K) (hQ : ∀ t', hx_T A B mn (a * b) t' → Q t') : wqX5_swapColumns K t (nI x) (nI y) Q := by
  obtain ⟨K, rfl⟩ : ∃ K', K = K' + 1 := ⟨K - 1, by omega⟩
  exact hz_scT_go ha hb hab ea eb hx hy hQ 64 0 K t _ (by omega) (by omega) hT rfl rfl rfl
theorem hz_reduceRowsT {A : Nat → Int32} {B : Nat → Nat → Int32} {mn : Int64} {a b x K : Nat} {t : XT} {Q : Int32 → XT → Prop} (ha : a < 64) (hb : b < 64) (hab : a * b ≤ 900) (ea : A 10 = nI a) (eb : A 11 = nI b) (hm : 0 < mn.toInt) (hxa : x < a) (hxb : x < b) (hT : hx_T A B mn (a * b) t) (hK : 6000 ≤ K) (hQ : ∀ r t', hx_T A B mn (a * b) t' → Q r t') : wqX5_reduceRows K t (nI x) Q := by
  obtain ⟨K, rfl⟩ : ∃ K', K = K' + 1 := ⟨K - 1, by omega⟩
  show wbX5_reduceRows_0 (wpX5_reduceRows K) K t (uI (fun _ => 0) 1 (nI x)) (fun _ => 0) Q
  intro w1 f1
  exact hz_rrT_go ha hb hab ea eb hm hxa hxb hQ (64 - (x + 1)) (x + 1) K t _ _ (by omega) (by omega) hT (Or.inr rfl) rfl (by show w1 = _; rw [f1]; exact nI_1 x)
theorem hz_reduceColumnsT {A : Nat → Int32} {B : Nat → Nat → Int32} {mn : Int64} {a b x K : Nat} {t : XT} {Q : Int32 → XT → Prop} (ha : a < 64) (hb : b < 64) (hab : a * b ≤ 900) (ea : A 10 = nI a) (eb : A 11 = nI b) (hm : 0 < mn.toInt) (hxa : x < a) (hxb : x < b) (hT : hx_T A B mn (a * b) t) (hK : 6000 ≤ K) (hQ : ∀ r t', hx_T A B mn (a * b) t' → Q r t') : wqX5_reduceColumns K t (nI x) Q := by
  obtain ⟨K, rfl⟩ : ∃ K', K = K' + 1 := ⟨K - 1, by omega⟩
  show wbX5_reduceColumns_0 (wpX5_reduceColumns K) K t (uI (fun _ => 0) 1 (nI x)) (fun _ => 0) Q
  intro w1 f1
  exact hz_rcT_go ha hb hab ea eb hm hxa hxb hQ (64 - (x + 1)) (x + 1) K t _ _ (by omega) (by omega) hT (Or.inr rfl) rfl (by show w1 = _; rw [f1]; exact nI_1 x)
