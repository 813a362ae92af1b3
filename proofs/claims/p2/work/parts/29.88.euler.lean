/-! ===== count: the Euler number, on both sides ===== -/
noncomputable def hEn (L : Nat → Int32) (c : Nat) (p : Nat → Prop) (i : Nat) : Int32 := nI (hst_n (fun k => p k ∧ hm_bc (L k) = nI (i + 1)) c)
noncomputable def hEu (L : Nat → Int32) (c : Nat) (p : Nat → Prop) : Nat → Int32
  | 0 => 0
  | i + 1 => hEu L c p i + (if i % 2 = 0 then hEn L c p i else -hEn L c p i)
def hEa (d : Nat) : Int32 := if d % 2 = 0 then 1 else -1
theorem hEn_s {L : Nat → Int32} {c : Nat} {p : Nat → Prop} {i : Nat} : hEn L (c + 1) p i = hEn L c p i + nI (hq_sel (p c ∧ hm_bc (L c) = nI (i + 1)) 1) := (nI_add _ _).symm
theorem hEu_no {L : Nat → Int32} {c : Nat} {p : Nat → Prop} (h : ¬ p c) : ∀ i, hEu L (c + 1) p i = hEu L c p i := by
  intro i
  induction i with
  | zero => rfl
  | succ i ih =>
    have e : hEn L (c + 1) p i = hEn L c p i := by
      rw [hEn_s, hq_sel0 (fun w => h w.1)]
      exact Int32.add_zero _
    show hEu L (c + 1) p i + (if i % 2 = 0 then hEn L (c + 1) p i else -hEn L (c + 1) p i) = hEu L c p i + (if i % 2 = 0 then hEn L c p i else -hEn L c p i)
    rw [ih, e]
theorem hEu_yes {L : Nat → Int32} {c d : Nat} {p : Nat → Prop} (h : p c) (hd : hm_bc (L c) = nI (d + 1)) (d5 : d < 5) : ∀ i, i ≤ 5 → hEu L (c + 1) p i = hEu L c p i + (if d < i then hEa d else 0) := by
  intro i
  induction i with
  | zero => exact fun _ => by rw [if_neg (by omega)]; exact (Int32.add_zero _).symm
  | succ i ih =>
    intro hi
    show hEu L (c + 1) p i + (if i % 2 = 0 then hEn L (c + 1) p i else -hEn L (c + 1) p i) = hEu L c p i + (if i % 2 = 0 then hEn L c p i else -hEn L c p i) + (if d < i + 1 then hEa d else 0)
    rw [ih (by omega), hEn_s]
    by_cases z : i = d
    · subst z
      rw [hq_sel1 ⟨h, hd⟩, if_neg (show ¬ i < i by omega), if_pos (show i < i + 1 by omega), Int32.add_zero]
      unfold hEa
      by_cases y : i % 2 = 0
      · rw [if_pos y, if_pos y, if_pos y, Int32.add_assoc]; rfl
      · rw [if_neg y, if_neg y, if_neg y, Int32.neg_add, Int32.sub_eq_add_neg, ← Int32.add_assoc]; rfl
    · have no : ¬ (p c ∧ hm_bc (L c) = nI (i + 1)) := fun w => z (by
        have := (nI_eq (by omega) (by omega)).mp (w.2.symm.trans hd)
        omega)
      have e0 : hEn L c p i + nI (hq_sel (p c ∧ hm_bc (L c) = nI (i + 1)) 1) = hEn L c p i := by
        rw [hq_sel0 no]; exact Int32.add_zero _
      rw [e0]
      have e1 : (if d < i + 1 then hEa d else 0) = (if d < i then hEa d else 0) := by
        by_cases y : d < i
        · rw [if_pos y, if_pos (by omega)]
        · rw [if_neg y, if_neg (by omega)]
      rw [e1]
      generalize hEu L c p i = A
      generalize (if d < i then hEa d else 0) = B
      generalize (if i % 2 = 0 then hEn L c p i else -hEn L c p i) = C
      rw [Int32.add_assoc, Int32.add_comm B C, ← Int32.add_assoc]
theorem hEa_ref : ∀ d, d < 5 → (nI d - nI d / 2 * 2 = 0 ↔ d % 2 = 0) := by decide +kernel
theorem hEa_cls : ∀ d, d < 5 → (nI d &&& 1 = 0 ↔ d % 2 = 0) := by decide +kernel
theorem hmx_alternating {t : XT} {k d K : Nat} {Q : Int32 → XT → Prop} (hk : k < 60) (hd : hm_dim t k = nI d) (d5 : d < 5) (hK : 4 ≤ K) (hQ : Q (hEa d) t) : wqX12_alternating K t (nI k) Q := by
  obtain ⟨K, rfl⟩ : ∃ K', K = K' + 1 := ⟨K - 1, by omega⟩
  show wbX12_alternating_0 (wpX12_alternating K) K t (uI (fun _ => 0) 1 (nI k)) (fun _ => 0) Q
  refine hm_dimOf hk (by omega) ⟨by decide, fun v2 e2 => ?_⟩
  rw [hd] at e2
  have q := hEa_ref d d5
  rw [← e2] at q
  unfold hEa at hQ
  refine ⟨fun z => ?_, fun z => ?_⟩
  · rw [if_neg (fun w => z (q.mpr w))] at hQ; exact hQ
  · rw [if_pos (q.mp z)] at hQ; exact hQ
theorem hmx_euler_go {t : XT} {L : Nat → Int32} {c : Nat} {lj : Nat → Int64} {Q : Int32 → XT → Prop} (hM : hmE t L c) (hL : hnL L c) (hQ : Q (hEu L c (fun k => hm_gone t k = 0) 5) t) :
    ∀ (d i K : Nat) (li : Nat → Int32), i + d = c → 2 * d + 20 ≤ K → li 1 = hEu L i (fun k => hm_gone t k = 0) 5 → li 2 = nI i → wpX12_euler K 1 t li lj Q := by
  have hc := hL.1
  intro d
  induction d with
  | zero =>
    intro i K li hd hK h1 e2
    obtain ⟨K, rfl⟩ : ∃ K', K = K' + 1 := ⟨K - 1, by omega⟩
    obtain rfl : i = c := by omega
    show wbX12_euler_1 (wpX12_euler K) K t li lj Q
    exact ⟨fun _ => by rw [h1]; exact hQ, fun x => absurd (show t.1 3 ≤ li 2 by rw [hM.1, e2]; exact nI_le (by omega) (by omega)) x⟩
  | succ d ih =>
    intro i K li hd hK h1 e2
    obtain ⟨K, rfl⟩ : ∃ K', K = K' + 2 := ⟨K - 2, by omega⟩
    have nx : ∀ v : Int32, li 1 + v = hEu L (i + 1) (fun k => hm_gone t k = 0) 5 → wpX12_euler (K + 1) 2 t (uI (uI li 101 v) 100 (li 1)) lj Q := by
      intro v hv
      show wbX12_euler_2 (wpX12_euler K) K t (uI (uI li 101 v) 100 (li 1)) lj Q
      intro v5 e5 v6 e6
      exact ih (i + 1) K _ (by omega) (by omega) (show v5 = _ from e5.trans hv) (by show v6 = _; rw [e6]; exact (congrArg (· + Int32.ofInt 1) e2).trans (hs_inc i))
    obtain ⟨di, di5, hdi⟩ := hnL_bc hL (show i < c by omega)
    have dim : hm_dim t i = nI di := by
      unfold hm_dim hm_let
      rw [hM.2.1 i (by omega), hdi]; exact nI_pred di
    show wbX12_euler_1 (wpX12_euler (K + 1)) (K + 1) t li lj Q
    unfold wbX12_euler_1
    rw [e2]
    refine ⟨fun x => absurd (show t.1 3 ≤ nI i from x) (by rw [hM.1]; exact nI_ge (by omega) (by omega)), fun _ => ?_⟩
    refine hm_isThere hM.1 hc (by omega) (fun j hj ej gj => ⟨fun z => absurd z (by decide), fun _ => ?_⟩) (fun no => ⟨fun _ => nx 0 ?_, fun z => absurd rfl z⟩)
    · have gi : hm_gone t i = 0 := by
        have := (nI_eq (by omega) (by omega)).mp ej
        rw [this]; exact gj
      refine hmx_alternating (by omega) dim di5 (by omega) (nx (hEa di) ?_)
      rw [hEu_yes (p := fun k => hm_gone t k = 0) gi hdi di5 5 (by omega), if_pos di5, h1]
    · have gi : ¬ hm_gone t i = 0 := no i (by omega) rfl
      rw [hEu_no (p := fun k => hm_gone t k = 0) gi 5, h1]
      exact Int32.add_zero _
theorem hEu_00 {L : Nat → Int32} {p : Nat → Prop} : ∀ i, hEu L 0 p i = 0 := by
  intro i
  induction i with
  | zero => rfl
  | succ i ih =>
    have e : hEn L 0 p i = 0 := rfl
    show hEu L 0 p i + (if i % 2 = 0 then hEn L 0 p i else -hEn L 0 p i) = 0
    rw [ih, e]
    by_cases y : i % 2 = 0
    · rw [if_pos y]; rfl
    · rw [if_neg y]; rfl
theorem hEu_0 {L : Nat → Int32} {p : Nat → Prop} : hEu L 0 p 5 = 0 := hEu_00 5
theorem hmx_euler {t : XT} {L : Nat → Int32} {c K : Nat} {Q : Int32 → XT → Prop} (hM : hmE t L c) (hL : hnL L c) (hK : 200 ≤ K) (hQ : Q (hEu L c (fun k => hm_gone t k = 0) 5) t) : wqX12_euler K t Q := by
  have hc := hL.1
  obtain ⟨K, rfl⟩ : ∃ K', K = K' + 1 := ⟨K - 1, by omega⟩
  show wbX12_euler_0 (wpX12_euler K) K t (fun _ => 0) (fun _ => 0) Q
  exact hmx_euler_go (lj := fun _ => 0) hM hL hQ c 0 K _ (by omega) (by omega) hEu_0.symm rfl
theorem hpx_euler_go {t : XT} {L : Nat → Int32} {c : Nat} {v : Int64} {p : Nat → Prop} {Q : Int32 → XT → Prop} (hE : hcE t L c) (hc : c ≤ 60) (hv : ∀ k, hb v k = true ↔ (k < c ∧ p k)) (hQ : Q (hEu L c p 5) t) :
    ∀ (d i K : Nat) (li : Nat → Int32) (lj : Nat → Int64), i + d = 5 → 2 * d + 5 ≤ K → lj 1 = v → li 3 = hEu L c p i → li 4 = nI i → wpX9_eulerOf K 1 t li lj Q := by
  intro d
  induction d with
  | zero =>
    intro i K li lj hd hK ev h3 e4
    obtain ⟨K, rfl⟩ : ∃ K', K = K' + 1 := ⟨K - 1, by omega⟩
    obtain rfl : i = 5 := by omega
    show wbX9_eulerOf_1 (wpX9_eulerOf K) K t li lj Q
    exact ⟨fun _ => by rw [h3]; exact hQ, fun x => absurd (show nI 5 ≤ li 4 by rw [e4]; exact nI_le (by omega) (by omega)) x⟩
  | succ d ih =>
    intro i K li lj hd hK ev h3 e4
    obtain ⟨K, rfl⟩ : ∃ K', K = K' + 2 := ⟨K - 2, by omega⟩
    have ci : (nI i).toNatClampNeg = i := nI_clamp (by omega)
    have nx : ∀ li' : Nat → Int32, li' 100 + li' 101 = hEu L c p (i + 1) → li' 4 = nI i → wpX9_eulerOf (K + 1) 2 t li' lj Q := by
      intro li' a3 a4
      show wbX9_eulerOf_2 (wpX9_eulerOf K) K t li' lj Q
      intro v8 e8 v9 e9
      exact ih (i + 1) K _ lj (by omega) (by omega) ev (show v8 = _ from e8.trans a3) (by show v9 = _; rw [e9, a4]; exact hs_inc i)
    have sn : hEu L c p (i + 1) = hEu L c p i + (if i % 2 = 0 then hEn L c p i else -hEn L c p i) := rfl
    show wbX9_eulerOf_1 (wpX9_eulerOf (K + 1)) (K + 1) t li lj Q
    unfold wbX9_eulerOf_1
    rw [e4]
    refine ⟨fun x => absurd (show nI 5 ≤ nI i from x) (nI_ge (by omega) (by omega)), fun _ => ⟨vp_in_nI (n := i) (by omega) (by decide), fun v2 f2 v3 f3 => ?_⟩⟩
    have f2 : v2 = t.2.2.2 2 i := f2.trans (congrArg (t.2.2.2 2) ci)
    have b3 : ∀ k, hb v3 k = true ↔ (k < c ∧ (p k ∧ hm_bc (L k) = nI (i + 1))) := fun k => by
      rw [f3, ev, f2, hb_and, Bool.and_eq_true, hv k, hE.2.2.2.2.2.2 i k (by omega)]
      exact ⟨fun w => ⟨w.1.1, w.1.2, w.2.2⟩, fun w => ⟨⟨w.1, w.2.1⟩, w.1, w.2.2⟩⟩
    refine hw_bc64 (by omega) ?_
    have cnt : nI (nb 64 (un v3)) = hEn L c p i := (hct b3 (by omega)).trans (hct_n c)
    rw [cnt]
    intro v5 e5
    have q := hEa_cls i (by omega)
    rw [← e5] at q
    refine ⟨fun z v7 e7 => nx _ ?_ e4, fun z => nx _ ?_ e4⟩
    · show li 3 + v7 = _
      rw [e7, h3, sn, if_neg (fun w => z (q.mpr w))]
    · show li 3 + hEn L c p i = _
      rw [h3, sn, if_pos (q.mp z)]
theorem hpx_euler {t : XT} {L : Nat → Int32} {c K : Nat} {v : Int64} {p : Nat → Prop} {Q : Int32 → XT → Prop} (hE : hcE t L c) (hc : c ≤ 60) (hv : ∀ k, hb v k = true ↔ (k < c ∧ p k)) (hK : 100 ≤ K) (hQ : Q (hEu L c p 5) t) : wqX9_eulerOf K t v Q := by
  obtain ⟨K, rfl⟩ : ∃ K', K = K' + 1 := ⟨K - 1, by omega⟩
  show wbX9_eulerOf_0 (wpX9_eulerOf K) K t (fun _ => 0) (uI (fun _ => 0) 1 v) Q
  exact hpx_euler_go hE hc hv hQ 5 0 K _ _ (by omega) (by omega) rfl rfl rfl
