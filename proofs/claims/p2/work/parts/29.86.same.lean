/-! ===== same answers alike ===== -/
theorem hpx_shared_go {t : XT} {c j : Nat} {P : Nat → Int32} {p : Nat → Prop} {lj : Nat → Int64} {Q : Int32 → XT → Prop} (h5 : ∀ k, k < c → t.2.2.1 5 k = P k) (h6 : ∀ k, c ≤ k → k < 64 → t.2.2.1 5 k = -1) (hc : c ≤ 60) (hj : j < 3)
    (hp : ∀ k, p k ↔ (k < c ∧ (P k ≠ -1 ∧ nI k < P k) ∧ t.2.2.1 10 (64 * j + k) = P k)) (hQ : Q (nI (hst_n p 64)) t) :
    ∀ (d i K : Nat) (li : Nat → Int32), i + d = 64 → 2 * d + 2 ≤ K → li 1 = nI j → li 3 = nI (hst_n p i) → li 4 = nI i → wpX4_shared_c4 K 1 t li lj Q := by
  intro d
  induction d with
  | zero =>
    intro i K li hd hK e1 e3 e4
    obtain ⟨K, rfl⟩ : ∃ K', K = K' + 1 := ⟨K - 1, by omega⟩
    obtain rfl : i = 64 := by omega
    show wbX4_shared_c4_1 (wpX4_shared_c4 K) K t li lj Q
    refine ⟨fun _ => by rw [e3]; exact hQ, fun x => absurd (show nI 64 ≤ li 4 by rw [e4]; exact nI_le (by omega) (by omega)) x⟩
  | succ d ih =>
    intro i K li hd hK e1 e3 e4
    obtain ⟨K, rfl⟩ : ∃ K', K = K' + 2 := ⟨K - 2, by omega⟩
    have ci : (nI i).toNatClampNeg = i := nI_clamp (by omega)
    have sn : hst_n p (i + 1) = hst_n p i + hq_sel (p i) 1 := rfl
    have nx : ∀ li' : Nat → Int32, li' 1 = nI j → li' 3 = nI (hst_n p (i + 1)) → li' 4 = nI i → wpX4_shared_c4 (K + 1) 2 t li' lj Q := by
      intro li' a1 a3 a4
      show wbX4_shared_c4_2 (wpX4_shared_c4 K) K t li' lj Q
      intro v e
      exact ih (i + 1) K _ (by omega) (by omega) a1 a3 (by show v = _; rw [e, a4]; exact hs_inc i)
    have same : ¬ p i → wpX4_shared_c4 (K + 1) 2 t li lj Q := fun no => nx li e1 (by rw [e3, sn, hq_sel0 no, Nat.add_zero]) e4
    show wbX4_shared_c4_1 (wpX4_shared_c4 (K + 1)) (K + 1) t li lj Q
    unfold wbX4_shared_c4_1
    rw [e1, e4]
    refine ⟨fun x => absurd (show nI 64 ≤ nI i from x) (nI_ge (by omega) (by omega)), fun _ => ⟨vp_in_nI (n := i) (by omega) (by decide), fun v2 f2 => ⟨fun z => same (fun w => ?_), fun nz => ⟨vp_in_nI (n := i) (by omega) (by decide), fun v4 f4 v5 f5 v6 f6 => ?_⟩⟩⟩⟩
    · have w := (hp i).mp w
      rw [f2, ci, h5 i w.1] at z
      exact Int32.not_lt.mpr z w.2.1.2
    · rw [f2, ci] at nz
      have lt : nI i < t.2.2.1 5 i := Int32.not_le.mp nz
      have ne : t.2.2.1 5 i ≠ -1 := fun e => absurd (Int32.lt_trans (e ▸ lt) (by decide : (-1 : Int32) < 0)) (nI_pos (by omega))
      have ic : i < c := Nat.lt_of_not_le (fun q => ne (h6 i q (by omega)))
      have f4 : v4 = P i := f4.trans ((congrArg (t.2.2.1 5) ci).trans (h5 i ic))
      rw [h5 i ic] at lt ne
      have f6 : v6 = nI (64 * j + i) := by rw [f6, f5, hz_64 j (by omega)]; exact nI_add _ _
      subst f6
      refine ⟨vp_in_nI (n := 64 * j + i) (show 64 * j + i < 192 by omega) (by decide), fun v7 f7 => ?_⟩
      have f7 : v7 = t.2.2.1 10 (64 * j + i) := f7.trans (congrArg (t.2.2.1 10) (nI_clamp (by omega)))
      refine ⟨fun q => same (fun w => q ?_), fun q v9 f9 => ?_⟩
      · rw [f4, f7]; exact ((hp i).mp w).2.2.symm
      · have pi : p i := (hp i).mpr ⟨ic, ⟨ne, lt⟩, by rw [← f7, ← f4]; exact q.symm⟩
        refine nx _ e1 ?_ e4
        show v9 = _
        rw [f9, e3, sn, hq_sel1 pi]; exact hs_inc _
theorem hpx_shared {t : XT} {c j K : Nat} {P : Nat → Int32} {G p : Nat → Prop} {Q : Int32 → XT → Prop} (hX : hpX t c P G) (hc : c ≤ 60) (hj : j < 3) (hp : ∀ k, p k ↔ (k < c ∧ (P k ≠ -1 ∧ nI k < P k) ∧ t.2.2.1 10 (64 * j + k) = P k)) (hK : 200 ≤ K) (hQ : Q (nI (hst_n p c)) t) : wqX4_shared_c4 K t (nI j) Q := by
  obtain ⟨K, rfl⟩ : ∃ K', K = K' + 1 := ⟨K - 1, by omega⟩
  show wbX4_shared_c4_0 (wpX4_shared_c4 K) K t (uI (fun _ => 0) 1 (nI j)) (fun _ => 0) Q
  have e := hst_gap2 (p := p) (b := c) (j := 64) (by omega) (fun k a _ y => absurd ((hp k).mp y).1 (by omega))
  exact hpx_shared_go hX.1 hX.2.1 hc hj hp (by rw [e]; exact hQ) 64 0 K _ (by omega) (by omega) rfl rfl rfl
theorem hmx_same_go {t : XT} {c j : Nat} {p : Nat → Prop} {lj : Nat → Int64} {Q : Int32 → XT → Prop} (hm : t.1 3 = nI c) (hc : c ≤ 60) (hj : j < 3)
    (hp : ∀ k, k < c → (p k ↔ (hm_low t k ∧ t.2.2.1 15 (60 * j + k) = hm_par t k))) (hQ : Q (nI (hst_n p c)) t) :
    ∀ (d i K : Nat) (li : Nat → Int32), i + d = c → 3 * d + 5 ≤ K → li 1 = nI j → li 2 = nI (hst_n p i) → li 3 = nI i → wpX12_same K 1 t li lj Q := by
  intro d
  induction d with
  | zero =>
    intro i K li hd hK e1 e2 e3
    obtain ⟨K, rfl⟩ : ∃ K', K = K' + 1 := ⟨K - 1, by omega⟩
    obtain rfl : i = c := by omega
    show wbX12_same_1 (wpX12_same K) K t li lj Q
    refine ⟨fun _ => by rw [e2]; exact hQ, fun x => absurd (show t.1 3 ≤ li 3 by rw [hm, e3]; exact nI_le (by omega) (by omega)) x⟩
  | succ d ih =>
    intro i K li hd hK e1 e2 e3
    obtain ⟨K, rfl⟩ : ∃ K', K = K' + 3 := ⟨K - 3, by omega⟩
    have ci : (nI i).toNatClampNeg = i := nI_clamp (by omega)
    have sn : hst_n p (i + 1) = hst_n p i + hq_sel (p i) 1 := rfl
    have three : ∀ (k : Nat) (b : Int32) (li' : Nat → Int32), K ≤ k → li' 1 = nI j → li' 3 = nI i → li' 100 = li 2 → li' 101 = b → ((if b = 0 then (0 : Int32) else 1) = nI (hq_sel (p i) 1)) → wpX12_same (k + 1) 3 t li' lj Q := by
      intro k b li' hk a1 a3 a100 a101 hb
      show wbX12_same_3 (wpX12_same k) k t li' lj Q
      unfold wbX12_same_3
      rw [a101, a100]
      refine hm_truth (by omega) (fun v e v' e' => ?_)
      refine ih (i + 1) k _ (by omega) (by omega) a1 (show v = _ from ?_) (show v' = _ from ?_)
      · rw [e, hb, e2, sn]; exact nI_add _ _
      · rw [e', a3]; exact hs_inc i
    have two : ¬ p i → wpX12_same (K + 2) 2 t (uI li 100 (li 2)) lj Q := by
      intro no
      show wbX12_same_2 (wpX12_same (K + 1)) (K + 1) t (uI li 100 (li 2)) lj Q
      exact three K 0 _ (Nat.le_refl K) e1 e3 rfl rfl (by rw [hq_sel0 no]; rfl)
    show wbX12_same_1 (wpX12_same (K + 2)) (K + 2) t li lj Q
    unfold wbX12_same_1
    rw [e1, e3]
    refine ⟨fun x => absurd (show t.1 3 ≤ nI i from x) (by rw [hm]; exact nI_ge (by omega) (by omega)), fun _ => ?_⟩
    refine hm_isLower (by omega) (by omega) (fun lo => ⟨fun z => absurd z (by decide), fun _ v8 f8 v9 f9 => ?_⟩) (fun no => ⟨fun _ => two (fun w => no ((hp i (by omega)).mp w).1), fun z => absurd rfl z⟩)
    have f9 : v9 = nI (60 * j + i) := by rw [f9, f8, hq_60 j hj]; exact nI_add _ _
    subst f9
    refine ⟨vp_in_nI (n := 60 * j + i) (show 60 * j + i < 180 by omega) (by decide), fun v10 f10 => ⟨vp_in_nI (n := i) (by omega) (by decide), fun v11 f11 => ⟨fun q => two (fun w => q ?_), fun q => ?_⟩⟩⟩
    · have w := ((hp i (by omega)).mp w).2
      rw [f10, f11, ci, nI_clamp (show 60 * j + i < 2 ^ 31 by omega)]
      exact w
    · have pi : p i := by
        refine (hp i (by omega)).mpr ⟨lo, ?_⟩
        rw [f10, f11, ci, nI_clamp (show 60 * j + i < 2 ^ 31 by omega)] at q
        exact q
      exact three (K + 1) 1 _ (by omega) e1 e3 rfl rfl (by rw [hq_sel1 pi]; rfl)
theorem hmx_same {t : XT} {c K : Nat} {a : Int32} {Q : Int32 → XT → Prop} (hm : t.1 3 = nI c) (hc : c ≤ 60) (hK : 300 ≤ K)
    (h2 : ∀ j, j < 3 → a = nI j → t.2.2.1 14 j ≠ 0 → Q (nI (hst_n (fun k => k < c ∧ hm_low t k ∧ t.2.2.1 15 (60 * j + k) = hm_par t k) c)) t)
    (h1 : ∀ j, j < 3 → a = nI j → t.2.2.1 14 j = 0 → Q (-2) t) (h0 : (∀ j, j < 3 → a ≠ nI j) → Q (-1) t) : wqX12_same K t a Q := by
  obtain ⟨K, rfl⟩ : ∃ K', K = K' + 1 := ⟨K - 1, by omega⟩
  show wbX12_same_0 (wpX12_same K) K t (uI (fun _ => 0) 1 a) (fun _ => 0) Q
  refine hmx_in (n := 2) (by omega) (by omega) (fun j hj e => ⟨fun _ => ?_, fun z => absurd z (by decide)⟩) (fun no => ⟨fun z => absurd rfl z, fun _ => h0 (fun j hj => no j (by omega))⟩)
  have e : a = nI j := e
  have g2 := h2 j (by omega) e
  have g1 := h1 j (by omega) e
  clear h2 h1 h0
  subst e
  have cj : (nI j).toNatClampNeg = j := nI_clamp (by omega)
  refine ⟨vp_in_nI (n := j) (show j < 3 by omega) (by decide), fun v3 e3 => ?_⟩
  have e3 : v3 = t.2.2.1 14 j := e3.trans (congrArg (t.2.2.1 14) cj)
  refine ⟨fun nz => ?_, fun z => g1 (e3.symm.trans z)⟩
  exact hmx_same_go hm hc (by omega) (fun k hk => ⟨fun w => w.2, fun w => ⟨hk, w⟩⟩) (g2 (fun q => nz (e3.trans q))) c 0 K _ (by omega) (by omega) rfl rfl rfl
theorem hpx_same0 {K : Nat} {t : XT} {a : Int32} {Q : Int32 → XT → Prop} (h : wbX11_same_0 (wpX11_same (K + 1)) (K + 1) t (uI (fun _ => 0) 1 a) (fun _ => 0) Q) : wqX11_same (K + 2) t a Q := h
theorem hac_same (n : Nat) (tx tm : XT) (p1 : Int32) (hJ : hAl (n + 1) tx tm) : ∃ k, wqX11_same k tx p1 (fun r1 tx' => ∃ k', wqX12_same k' tm p1 (fun r2 tm' => r1 = r2 ∧ hAl n tx' tm')) := by
  have hJ0 := hJ
  obtain ⟨hJ, c, L, hL, hE, hM, hP, hH, hK⟩ := hJ
  have hc := hL.1
  obtain ⟨KA, hKA⟩ : ∃ KA, KA = 300 := ⟨_, rfl⟩
  refine hfa_same (A := KA + 2) (B := KA) hJ0 ?_
  have none : (∀ j, j < 3 → p1 ≠ nI j) → wqX12_same KA tm p1 (fun r2 _ => (-1 : Int32) = r2) := fun no => hmx_same hM.1 hc (by omega) (fun j hj e => absurd e (no j hj)) (fun j hj e => absurd e (no j hj)) (fun _ => rfl)
  refine hpx_same0 ⟨fun z => none (fun j hj e => ?_), fun y => ⟨fun z => ?_, fun z => none (fun j hj e => ?_)⟩⟩
  · have z : p1 < 0 := z
    rw [e] at z
    exact absurd z (nI_pos (by omega))
  · have y : ¬ p1 < 0 := y
    have z : p1 < (3 : Int32) := z
    obtain ⟨j, hj31, ej⟩ := nI_of (x := p1) y
    have hj : j < 3 := Nat.lt_of_not_le (fun q => Int32.not_le.mpr z (by rw [ej]; exact show nI 3 ≤ nI j from nI_le q hj31))
    subst ej
    have one : ∀ j', j' < 3 → nI j = nI j' → j' = j := fun j' h e => (nI_eq (by omega) (by omega)).mp e.symm
    have kj := hK j hj
    refine hw_isIn (by omega) (by omega) (fun b => ⟨fun _ => ?_, fun z => absurd z (by decide)⟩) (fun b => ⟨fun z => absurd rfl z, fun _ => ?_⟩)
    · have k14 := kj.1.mp b
      refine hpx_shared (p := fun k => k < c ∧ (hm_par tm k ≠ -1 ∧ nI k < hm_par tm k) ∧ tx.2.2.1 10 (64 * j + k) = hm_par tm k) hP hc hj (fun _ => Iff.rfl) (by omega) ?_
      refine hmx_same hM.1 hc (by omega) (fun j' hj' e _ => ?_) (fun j' hj' e q14 => ?_) (fun no => absurd rfl (no j hj))
      · obtain rfl := one j' hj' e
        refine congrArg nI (hst_eqv c (fun k hk => ?_))
        rw [(kj.2 k14).1 k hk]
        exact Iff.rfl
      · obtain rfl := one j' hj' e
        exact absurd q14 k14
    · refine hmx_same hM.1 hc (by omega) (fun j' hj' e k14 => ?_) (fun j' hj' e z => rfl) (fun no => absurd rfl (no j hj))
      obtain rfl := one j' hj' e
      exact absurd (kj.1.mpr k14) (by rw [b]; decide)
  · have z : ¬ p1 < (3 : Int32) := z
    rw [e] at z
    exact z (show nI j < nI 3 from nI_lt hj (by omega))
