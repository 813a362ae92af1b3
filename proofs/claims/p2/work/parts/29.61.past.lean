/-! ===== the class's past, exactly: save, restore ===== -/
/-- what the past and what is kept leave alone: the SIMPLICES, PAIRS, what is kept -/
def hpS (t : XT) : (Int32 × Int64 × Int64 × Int64) × ((Nat → Int32) × (Nat → Int32) × (Nat → Int32) × (Nat → Int32)) × ((Nat → Int64) × (Nat → Int64) × (Nat → Int64)) :=
  ((t.1 4, t.2.1 0, t.2.1 1, t.2.1 2), (t.2.2.1 2, t.2.2.1 3, t.2.2.1 4, t.2.2.1 5), (t.2.2.2 0, t.2.2.2 1, t.2.2.2 2))
theorem hcE_S {t t' : XT} {L : Nat → Int32} {c : Nat} (h : hpS t' = hpS t) (hE : hcE t L c) : hcE t' L c := by
  have a4 : t'.1 4 = t.1 4 := congrArg (fun q => q.1.1) h
  have b2 : t'.2.2.1 2 = t.2.2.1 2 := congrArg (fun q => q.2.1.1) h
  have b3 : t'.2.2.1 3 = t.2.2.1 3 := congrArg (fun q => q.2.1.2.1) h
  have b4 : t'.2.2.1 4 = t.2.2.1 4 := congrArg (fun q => q.2.1.2.2.1) h
  have d0 : t'.2.2.2 0 = t.2.2.2 0 := congrArg (fun q => q.2.2.1) h
  have d1 : t'.2.2.2 1 = t.2.2.2 1 := congrArg (fun q => q.2.2.2.1) h
  have d2 : t'.2.2.2 2 = t.2.2.2 2 := congrArg (fun q => q.2.2.2.2) h
  unfold hcE
  rw [a4, b2, b3, b4, d0, d1, d2]
  exact hE
theorem hpX_S {t t' : XT} {c : Nat} {P : Nat → Int32} {G : Nat → Prop} (h : hpS t' = hpS t) (hX : hpX t c P G) : hpX t' c P G := by
  have a0 : t'.2.1 0 = t.2.1 0 := congrArg (fun q => q.1.2.1) h
  have a1 : t'.2.1 1 = t.2.1 1 := congrArg (fun q => q.1.2.2.1) h
  have a2 : t'.2.1 2 = t.2.1 2 := congrArg (fun q => q.1.2.2.2) h
  have b5 : t'.2.2.1 5 = t.2.2.1 5 := congrArg (fun q => q.2.1.2.2.2) h
  unfold hpX
  rw [a0, a1, a2, b5]
  exact hX
/-- one entry of the class's past, at slot j -/
def hhE (t : XT) (c j : Nat) (A : Nat → Int32) (B : Nat → Prop) : Prop :=
  (∀ k, k < c → t.2.2.1 9 (64 * j + k) = A k) ∧ (∀ k, c ≤ k → k < 64 → t.2.2.1 9 (64 * j + k) = -1) ∧ ∀ k, hb (t.2.2.2 6 j) k = true ↔ (k < c ∧ ¬ B k)
/-- the class's past: n entries, A and B of each -/
def hhX (t : XT) (c n : Nat) (A : Nat → Nat → Int32) (B : Nat → Nat → Prop) : Prop :=
  n ≤ 16 ∧ t.1 8 = nI n ∧ ∃ h, h < 16 ∧ t.1 9 = nI h ∧ ∀ i, i < n → hhE t c ((h + 16 - n + i) % 16) (A i) (B i)
theorem hhX_fr {t t' : XT} {c n : Nat} {A : Nat → Nat → Int32} {B : Nat → Nat → Prop} (h : hhX t c n A B) (e8 : t'.1 8 = t.1 8) (e9 : t'.1 9 = t.1 9) (r9 : t'.2.2.1 9 = t.2.2.1 9) (l6 : t'.2.2.2 6 = t.2.2.2 6) : hhX t' c n A B := by
  unfold hhX hhE
  rw [e8, e9, r9, l6]
  exact h
/-- the past with one entry more, the 17th last is lost -/
def hhP {α : Type} (n : Nat) (A : Nat → α) (P : α) : Nat → α := fun i => if n = 16 then (if i < 15 then A (i + 1) else P) else (if i < n then A i else P)
theorem hhx_save {t : XT} {c n K : Nat} {A : Nat → Nat → Int32} {B : Nat → Nat → Prop} {P : Nat → Int32} {G : Nat → Prop} {Q : XT → Prop} (h : hhX t c n A B) (hX : hpX t c P G) (hc : c ≤ 60) (hK : 2 ≤ K)
    (hQ : ∀ t', hpS t' = hpS t → t'.2.1 6 = t.2.1 6 → t'.2.2.1 10 = t.2.2.1 10 → hhX t' c (if n = 16 then 16 else n + 1) (hhP n A P) (hhP n B G) → Q t') : wqX3_save_c4 K t Q := by
  obtain ⟨K, rfl⟩ : ∃ K', K = K' + 1 := ⟨K - 1, by omega⟩
  obtain ⟨hn, e8, h0, hh, e9, hA⟩ := h
  obtain ⟨a1, a2, a3, a4, a5⟩ := hX
  show wbX3_save_c4_0 (wpX3_save_c4 K) K t (fun _ => 0) (fun _ => 0) Q
  intro v1 e1
  have ch : (nI h0).toNatClampNeg = h0 := nI_clamp (by omega)
  have m64 : nI h0 * 64 = nI (64 * h0) := hz_64 h0 hh
  have e1 : v1 = nI (64 * h0) := by rw [e1, e9]; exact m64
  have c64 : (nI (64 * h0)).toNatClampNeg = 64 * h0 := nI_clamp (by omega)
  subst e1
  refine ⟨by decide, nI_pos (by omega), by decide, by decide, ?_, fun t2 e2 => ?_⟩
  · rw [c64]
    show 64 * h0 + 64 ≤ 1024
    omega
  have z0 : (0 : Int32).toNatClampNeg = 0 := by decide
  have z64 : (64 : Int32).toNatClampNeg = 64 := by decide
  rw [c64, z0, z64] at e2
  have e29 : t2.1 9 = nI h0 := by rw [e2]; exact e9
  rw [e29, ch]
  refine ⟨vp_in_nI (n := h0) hh (by decide), fun t3 e3 v4 e4 => ⟨by decide, fun v5 e5 t6 e6 v7 e7 v8 e8' t9 e9' => ?_⟩⟩
  have e39 : t3.1 9 = nI h0 := by rw [e3]; exact e29
  have e4 : v4 = nI (h0 + 1) := by rw [e4, e39]; exact nI_1 h0
  have e5 : v5 = nI ((h0 + 1) % 16) := by
    rw [e5, e4]
    have w : ∀ q, q < 17 → nI q - nI q / 16 * 16 = nI (q % 16) := by decide +kernel
    exact w (h0 + 1) (by omega)
  have e68 : t6.1 8 = nI n := by rw [e6, e3, e2]; exact e8
  have e7 : v7 = nI (n + 1) := by rw [e7, e68]; exact nI_1 n
  have e8' : v8 = nI (if n = 16 then 16 else n + 1) := by
    rw [e8', e7]
    by_cases z : n = 16
    · rw [if_pos z, z]; exact if_pos (by decide)
    · rw [if_neg z]; exact if_neg (show ¬ nI 16 < nI (n + 1) from nI_nlt (by omega) (by omega))
  have r9 : t9.2.2.1 9 = va_cpy (t.2.2.1 5) (t.2.2.1 9) 0 (64 * h0) 64 := by rw [e9', e6, e3, e2]; rfl
  have l6 : t9.2.2.2 6 = vp_updL (t.2.2.2 6) h0 (t.2.1 0) := by rw [e9', e6, e3, e2]; rfl
  have n9 : t9.1 9 = nI ((h0 + 1) % 16) := by rw [e9', e6, e5]; rfl
  have n8 : t9.1 8 = nI (if n = 16 then 16 else n + 1) := by rw [e9', e8']; rfl
  have new : hhE t9 c h0 P G := by
    unfold hhE
    rw [r9, l6]
    have at9 : ∀ k, k < 64 → va_cpy (t.2.2.1 5) (t.2.2.1 9) 0 (64 * h0) 64 (64 * h0 + k) = t.2.2.1 5 k := by
      intro k hk
      show (if 64 * h0 ≤ 64 * h0 + k ∧ 64 * h0 + k < 64 * h0 + 64 then t.2.2.1 5 (0 + (64 * h0 + k - 64 * h0)) else t.2.2.1 9 (64 * h0 + k)) = _
      rw [if_pos (by omega), show 0 + (64 * h0 + k - 64 * h0) = k by omega]
    refine ⟨fun k hk => (at9 k (by omega)).trans (a1 k hk), fun k h1 h2 => (at9 k h2).trans (a2 k h1 h2), fun k => ?_⟩
    rw [show vp_updL (t.2.2.2 6) h0 (t.2.1 0) h0 = t.2.1 0 from if_pos rfl]
    exact a3 k
  have old : ∀ j a b, j < 16 → j ≠ h0 → hhE t c j a b → hhE t9 c j a b := by
    intro j a b hj jh w
    unfold hhE at w ⊢
    rw [r9, l6, show vp_updL (t.2.2.2 6) h0 (t.2.1 0) j = t.2.2.2 6 j from if_neg jh]
    have at9 : ∀ k, k < 64 → va_cpy (t.2.2.1 5) (t.2.2.1 9) 0 (64 * h0) 64 (64 * j + k) = t.2.2.1 9 (64 * j + k) := fun k hk => if_neg (by omega)
    exact ⟨fun k hk => (at9 k (by omega)).trans (w.1 k hk), fun k h1 h2 => (at9 k h2).trans (w.2.1 k h1 h2), w.2.2⟩
  refine hQ t9 (by rw [e9', e6, e3, e2]; rfl) (by rw [e9', e6, e3, e2]; rfl) (by rw [e9', e6, e3, e2]; rfl) ⟨?_, n8, (h0 + 1) % 16, Nat.mod_lt _ (by decide), n9, fun i hi => ?_⟩
  · by_cases z : n = 16
    · rw [if_pos z]; omega
    · rw [if_neg z]; omega
  · unfold hhP
    by_cases z : n = 16
    · rw [if_pos z] at hi
      rw [if_pos z, if_pos z, if_pos z]
      by_cases y : i < 15
      · rw [if_pos y, if_pos y]
        have w := hA (i + 1) (by omega)
        rw [show ((h0 + 1) % 16 + 16 - 16 + i) % 16 = (h0 + 16 - n + (i + 1)) % 16 by omega]
        exact old _ _ _ (Nat.mod_lt _ (by decide)) (by omega) w
      · rw [if_neg y, if_neg y]
        rw [show ((h0 + 1) % 16 + 16 - 16 + i) % 16 = h0 by omega]
        exact new
    · rw [if_neg z] at hi
      rw [if_neg z, if_neg z, if_neg z]
      by_cases y : i < n
      · rw [if_pos y, if_pos y]
        have w := hA i y
        rw [show ((h0 + 1) % 16 + 16 - (n + 1) + i) % 16 = (h0 + 16 - n + i) % 16 by omega]
        exact old _ _ _ (Nat.mod_lt _ (by decide)) (by omega) w
      · rw [if_neg y, if_neg y]
        rw [show ((h0 + 1) % 16 + 16 - (n + 1) + i) % 16 = h0 by omega]
        exact new
/-- PARTNERS as far as taken back: pairs whose lower one is below i -/
def hpT (P : Nat → Int32) (i : Nat) : Nat → Int32 := fun k => if k < i ∨ (P k).toNatClampNeg < i then P k else -1
/-- PARTNERS match -/
def hpM (P : Nat → Int32) (c : Nat) : Prop := ∀ k, k < c → P k = -1 ∨ ∃ p, p < c ∧ p ≠ k ∧ P k = nI p ∧ P p = nI k
theorem hpT_all {P : Nat → Int32} {i k : Nat} (h : k < i) : hpT P i k = P k := if_pos (Or.inl h)
theorem hpT_same {P : Nat → Int32} {c i k : Nat} (hc : c ≤ 60) (hM : hpM P c) (hk : k < c) (ne : i < c → k = i → hpT P i k = P k) (np : ∀ p, p < c → P k = nI p → p = i → hpT P i k = P k) : hpT P (i + 1) k = hpT P i k := by
  unfold hpT at ne np ⊢
  by_cases z : k < i ∨ (P k).toNatClampNeg < i
  · rw [if_pos z, if_pos (z.elim (fun w => Or.inl (by omega)) (fun w => Or.inr (by omega)))]
  · rw [if_neg z] at ne np ⊢
    by_cases y : k < i + 1 ∨ (P k).toNatClampNeg < i + 1
    · rw [if_pos y]
      have zk : ¬ k < i := fun w => z (Or.inl w)
      have zp : ¬ (P k).toNatClampNeg < i := fun w => z (Or.inr w)
      rcases hM k hk with e | ⟨p, hp, pk, e, e'⟩
      · exact e
      · have cp : (nI p).toNatClampNeg = p := nI_clamp (by omega)
        rw [e, cp] at y zp
        rcases y with y | y
        · exact (ne (by omega) (by omega)).symm
        · exact (np p hp e (by omega)).symm
    · rw [if_neg y]
theorem hhx_take_go {t0 : XT} {c j0 : Nat} {P : Nat → Int32} {G : Nat → Prop} {lj : Nat → Int64} {Q : XT → Prop} (hc : c ≤ 60) (hj : j0 < 16) (hM : hpM P c) (r1 : ∀ k, k < c → t0.2.2.1 9 (64 * j0 + k) = P k) (r2 : ∀ k, c ≤ k → k < 64 → t0.2.2.1 9 (64 * j0 + k) = -1)
    (hQ : ∀ t', hpK t' = hpK t0 → hpX t' c P G → Q t') :
    ∀ (d i K : Nat) (t : XT) (li : Nat → Int32), i + d = 64 → 2 * d + 10 ≤ K → hpK t = hpK t0 → hpX t c (hpT P i) G → li 2 = nI (64 * j0) → li 5 = nI i → wpX6_takeBack_c27 K 1 t li lj Q := by
  intro d
  induction d with
  | zero =>
    intro i K t li hd hK hk hX e2 e5
    obtain ⟨K, rfl⟩ : ∃ K', K = K' + 1 := ⟨K - 1, by omega⟩
    obtain rfl : i = 64 := by omega
    show wbX6_takeBack_c27_1 (wpX6_takeBack_c27 K) K t li lj Q
    exact ⟨fun _ => hQ t hk (hpX_ext hX (fun k hk => (hpT_all (by omega)).symm) (fun _ _ => Iff.rfl)), fun x => absurd (show nI 64 ≤ li 5 by rw [e5]; exact nI_le (by omega) (by omega)) x⟩
  | succ d ih =>
    intro i K t li hd hK hk hX e2 e5
    obtain ⟨K, rfl⟩ : ∃ K', K = K' + 2 := ⟨K - 2, by omega⟩
    have nx : ∀ (t' : XT) (li' : Nat → Int32), hpK t' = hpK t0 → hpX t' c (hpT P (i + 1)) G → li' 2 = nI (64 * j0) → li' 5 = nI i → wpX6_takeBack_c27 (K + 1) 2 t' li' lj Q := by
      intro t' li' a1 a3 a2 a5
      show wbX6_takeBack_c27_2 (wpX6_takeBack_c27 K) K t' li' lj Q
      intro v e
      exact ih (i + 1) K t' _ (by omega) (by omega) a1 a3 a2 (by show v = _; rw [e, a5]; exact hs_inc i)
    show wbX6_takeBack_c27_1 (wpX6_takeBack_c27 (K + 1)) (K + 1) t li lj Q
    unfold wbX6_takeBack_c27_1
    rw [e2, e5]
    have o64 : ¬ nI 64 ≤ nI i := nI_ge (by omega) (by omega)
    refine ⟨fun x => absurd x o64, fun _ v3 e3 => ⟨fun x => ?_, fun _ v5 f5 => ?_⟩⟩
    · have e3 : v3 = nI (64 * j0 + i) := e3.trans (nI_add _ _)
      rw [e3] at x
      exact absurd (show nI 1024 ≤ nI (64 * j0 + i) from x) (nI_ge (by omega) (by omega))
    have f5 : v5 = nI (64 * j0 + i) := f5.trans (nI_add _ _)
    subst f5
    refine ⟨vp_in_nI (by omega) (by decide), fun v6 f6 => ?_⟩
    have f6 : v6 = t.2.2.1 9 (64 * j0 + i) := f6.trans (congrArg (t.2.2.1 9) (nI_clamp (by omega)))
    have r9 : t.2.2.1 9 = t0.2.2.1 9 := congrArg (fun q => q.2.1.2.2.2.1) hk
    rw [r9] at f6
    -- nothing new comes in at i
    have skip : (∀ k, k < c → hpT P (i + 1) k = hpT P i k) → wpX6_takeBack_c27 (K + 1) 2 t (uI li 6 v6) lj Q := fun w => nx t _ hk (hpX_ext hX w (fun _ _ => Iff.rfl)) e2 e5
    by_cases ic : i < c
    · rw [r1 i ic] at f6
      rcases hM i ic with e | ⟨p, hp, pi, e, e'⟩
      · have le : v6 ≤ nI i := by
          rw [f6, e]
          refine Int32.le_iff_toInt_le.mpr ?_
          rw [nI_toInt (by omega)]; show (-1 : Int) ≤ _; omega
        refine ⟨fun _ => skip (fun k hk' => hpT_same hc hM hk' (fun _ ki => ?_) (fun q hq eq qi => ?_)), fun y => absurd le y⟩
        · rw [ki, e]; unfold hpT; rw [e]
          by_cases w : i < i ∨ (-1 : Int32).toNatClampNeg < i
          · rw [if_pos w]
          · rw [if_neg w]
        · rw [qi] at eq
          rcases hM k hk' with w | ⟨p2, h2, n2, w, w'⟩
          · exact absurd (eq.symm.trans w) (hs_nI_neg (by omega))
          · have : p2 = i := (nI_eq (by omega) (by omega)).mp (w.symm.trans eq)
            rw [this] at w'
            exact absurd (e.symm.trans w') (fun z => hs_nI_neg (by omega) z.symm)
      · have ci : (nI p).toNatClampNeg = p := nI_clamp (by omega)
        have cii : (nI i).toNatClampNeg = i := nI_clamp (by omega)
        by_cases pl : p < i
        · have le : v6 ≤ nI i := by rw [f6, e]; exact nI_le (by omega) (by omega)
          refine ⟨fun _ => skip (fun k hk' => hpT_same hc hM hk' (fun _ ki => ?_) (fun q hq eq qi => ?_)), fun y => absurd le y⟩
          · rw [ki]; unfold hpT; rw [e, ci, if_pos (Or.inr pl)]
          · rw [qi] at eq
            rcases hM k hk' with w | ⟨p2, h2, n2, w, w'⟩
            · exact absurd (eq.symm.trans w) (hs_nI_neg (by omega))
            · have : p2 = i := (nI_eq (by omega) (by omega)).mp (w.symm.trans eq)
              rw [this] at w'
              have kp : k = p := (nI_eq (by omega) (by omega)).mp (w'.symm.trans e)
              rw [kp]; exact hpT_all pl
        · have lt : ¬ v6 ≤ nI i := by rw [f6, e]; exact nI_ge (by omega) (by omega)
          refine ⟨fun y => absurd y lt, fun _ => ?_⟩
          rw [f6, e]
          have t1 : hpT P i i = -1 := by unfold hpT; rw [e, ci, if_neg (by omega)]
          have t2 : hpT P i p = -1 := by unfold hpT; rw [e', cii, if_neg (by omega)]
          refine hpx_unite hX hc (show i < p by omega) hp t1 t2 (by omega) (fun t8 k8 x8 => nx t8 _ (k8.trans hk) (hpX_ext x8 (fun k hk' => ?_) (fun _ _ => Iff.rfl)) e2 e5)
          show hpT P (i + 1) k = if k = p then nI i else if k = i then nI p else hpT P i k
          by_cases kp : k = p
          · rw [if_pos kp, kp]; unfold hpT; rw [e', cii, if_pos (Or.inr (Nat.lt_succ_self i))]
          · rw [if_neg kp]
            by_cases ki : k = i
            · rw [if_pos ki, ki, hpT_all (Nat.lt_succ_self i)]; exact e
            · rw [if_neg ki]
              refine hpT_same hc hM hk' (fun _ w => absurd w ki) (fun q hq eq qi => ?_)
              rw [qi] at eq
              rcases hM k hk' with w | ⟨p2, h2, n2, w, w'⟩
              · exact absurd (eq.symm.trans w) (hs_nI_neg (by omega))
              · have : p2 = i := (nI_eq (by omega) (by omega)).mp (w.symm.trans eq)
                rw [this] at w'
                exact absurd ((nI_eq (by omega) (by omega)).mp (w'.symm.trans e)) kp
    · rw [r2 i (by omega) (by omega)] at f6
      have le : v6 ≤ nI i := by
        rw [f6]
        refine Int32.le_iff_toInt_le.mpr ?_
        rw [nI_toInt (by omega)]; show (-1 : Int) ≤ _; omega
      exact ⟨fun _ => skip (fun k hk' => (hpT_all (by omega)).trans (hpT_all (by omega)).symm), fun y => absurd le y⟩
theorem hhx_restore {t : XT} {c n K : Nat} {A : Nat → Nat → Int32} {B : Nat → Nat → Prop} {Q : XT → Prop} (h : hhX t c (n + 1) A B) (hc : c ≤ 60) (hM : hpM (A n) c) (hK : 200 ≤ K)
    (hQ : ∀ t', (t'.1 4, t'.2.1 6, (t'.2.2.1 2, t'.2.2.1 3, t'.2.2.1 4, t'.2.2.1 10), (t'.2.2.2 0, t'.2.2.2 1, t'.2.2.2 2)) = (t.1 4, t.2.1 6, (t.2.2.1 2, t.2.2.1 3, t.2.2.1 4, t.2.2.1 10), (t.2.2.2 0, t.2.2.2 1, t.2.2.2 2)) → hhX t' c n A B → hpX t' c (A n) (B n) → Q t') : wqX3_restore_c4 K t Q := by
  obtain ⟨K, rfl⟩ : ∃ K', K = K' + 2 := ⟨K - 2, by omega⟩
  obtain ⟨hn, e8, h0, hh, e9, hA⟩ := h
  show wbX3_restore_c4_0 (wpX3_restore_c4 (K + 1)) (K + 1) t (fun _ => 0) (fun _ => 0) Q
  refine ⟨fun _ v2 e2 v3 e3 => ⟨by decide, fun v4 e4 t5 e5 v6 e6 t7 e7 v8 e8' => ?_⟩, fun z => absurd (e8.symm.trans z) (fun w => ?_)⟩
  · obtain ⟨j0, hj0⟩ : ∃ j0, j0 = (h0 + 15) % 16 := ⟨_, rfl⟩
    have hj : j0 < 16 := by rw [hj0]; exact Nat.mod_lt _ (by decide)
    have cj : (nI j0).toNatClampNeg = j0 := nI_clamp (by omega)
    have e4 : v4 = nI j0 := by
      rw [e4, e3, e2, e9, hj0]
      have w : ∀ q, q < 16 → (nI q + 16 - 1) - (nI q + 16 - 1) / 16 * 16 = nI ((q + 15) % 16) := by decide +kernel
      exact w h0 hh
    have e79 : t7.1 9 = nI j0 := by rw [e7, e5, e4]; rfl
    have e78 : t7.1 8 = nI n := by
      have e6 : v6 = nI n := by
        rw [e6, e5]
        show t.1 8 - 1 = _
        rw [e8, ← nI_1 n]; exact Int32.add_sub_cancel (nI n) 1
      rw [e7, e6]; rfl
    have e8' : v8 = nI (64 * j0) := by rw [e8', e79]; exact hz_64 j0 hj
    rw [e79, cj, e8']
    refine ⟨vp_in_nI (n := j0) hj (by decide), fun v9 e9' => ?_⟩
    have r9 : t7.2.2.1 9 = t.2.2.1 9 := by rw [e7, e5]; rfl
    have l6 : t7.2.2.2 6 = t.2.2.2 6 := by rw [e7, e5]; rfl
    have en := hA n (by omega)
    rw [show (h0 + 16 - (n + 1) + n) % 16 = j0 by omega] at en
    obtain ⟨q1, q2, q3⟩ := en
    have hv : ∀ k, hb v9 k = true ↔ (k < c ∧ ¬ B n k) := fun k => by rw [e9', l6]; exact q3 k
    show wbX6_takeBack_c27_0 (wpX6_takeBack_c27 K) K t7 (uI (fun _ => 0) 2 (nI (64 * j0))) (uI (fun _ => 0) 3 v9) Q
    refine hpx_restart (G := B n) (c := c) hv (by omega) (fun t1 k1 x1 => ?_)
    have s9 : t1.2.2.1 9 = t.2.2.1 9 := (congrArg (fun q => q.2.1.2.2.2.1) k1).trans r9
    refine hhx_take_go (t0 := t1) (c := c) (P := A n) (G := B n) hc hj hM (fun k hk => by rw [s9]; exact q1 k hk) (fun k a b => by rw [s9]; exact q2 k a b) (fun t' k' x' => hQ t' ?_ ⟨by omega, ?_, j0, hj, ?_, fun i hi => ?_⟩ x') 64 0 K t1 _ (by omega) (by omega) rfl (hpX_ext x1 (fun k hk => ?_) (fun _ _ => Iff.rfl)) rfl rfl
    · have w := k'.trans k1
      have s7 : (t7.1 4, t7.2.1 6, (t7.2.2.1 2, t7.2.2.1 3, t7.2.2.1 4, t7.2.2.1 10), (t7.2.2.2 0, t7.2.2.2 1, t7.2.2.2 2)) = (t.1 4, t.2.1 6, (t.2.2.1 2, t.2.2.1 3, t.2.2.1 4, t.2.2.1 10), (t.2.2.2 0, t.2.2.2 1, t.2.2.2 2)) := by rw [e7, e5]; rfl
      exact (congrArg (fun q => (q.1.1, q.1.2.2.2, (q.2.1.1, q.2.1.2.1, q.2.1.2.2.1, q.2.1.2.2.2.2), (q.2.2.1, q.2.2.2.1, q.2.2.2.2.1))) w).trans s7
    · exact (congrArg (fun q => q.1.2.1) (k'.trans k1)).trans e78
    · exact (congrArg (fun q => q.1.2.2.1) (k'.trans k1)).trans e79
    · have w := hA i (by omega)
      rw [show (h0 + 16 - (n + 1) + i) % 16 = (j0 + 16 - n + i) % 16 by omega] at w
      have y9 : t'.2.2.1 9 = t.2.2.1 9 := (congrArg (fun q => q.2.1.2.2.2.1) k').trans s9
      have y6 : t'.2.2.2 6 = t.2.2.2 6 := (congrArg (fun q => q.2.2.2.2.2) (k'.trans k1)).trans l6
      unfold hhE at w ⊢
      rw [y9, y6]; exact w
    · show hpT (A n) 0 k = -1
      exact if_neg (by omega)
  · have := (nI_eq (b := 0) (by omega) (by omega)).mp w
    omega
