/-! ===== link answers alike ===== -/
def hlk (tm : XT) (L : Nat → Int32) (c k o : Nat) : Prop := hm_gone tm o = 0 ∧ L k &&& L o = 0 ∧ ∃ w, w < c ∧ L w = L k ||| L o ∧ hm_gone tm w = 0
theorem hlk_or {L : Nat → Int32} {c k o : Nat} (hL : hnL L c) (hk : k < c) (ho : o < c) : ∃ z, 1 ≤ z ∧ z < 256 ∧ L k ||| L o = nI z := by
  obtain ⟨x, x0, x1, x2, _⟩ := hL.2.2.1 k hk
  obtain ⟨y, y0, y1, y2, _⟩ := hL.2.2.1 o ho
  refine ⟨x ||| y, ?_, Nat.or_lt_two_pow (n := 8) x1 y1, by rw [x2, y2]; exact hq_or x y⟩
  have := Nat.left_le_or (n := x) (m := y)
  omega
theorem hlk_num {tm : XT} {L : Nat → Int32} {c k o z : Nat} (hL : hnL L c) (ez : L k ||| L o = nI z) (g : hm_gone tm o = 0) (a : L k &&& L o = 0) : hlk tm L c k o ↔ ∃ w, w < c ∧ hnO L c z = nI w ∧ hm_gone tm w = 0 := by
  have hc := hL.1
  unfold hlk
  rw [ez]
  refine ⟨fun h => ?_, fun h => ⟨g, a, ?_⟩⟩
  · obtain ⟨_, _, w, w1, w2, w3⟩ := h
    exact ⟨w, w1, (hnO_at (by omega) c hc hL.2.1).mpr ⟨w1, w2⟩, w3⟩
  · obtain ⟨w, w1, w2, w3⟩ := h
    exact ⟨w, w1, ((hnO_at (by omega) c hc hL.2.1).mp w2).2, w3⟩
theorem hpx_linkOf_go {t tm : XT} {L : Nat → Int32} {c k : Nat} {Q : Int64 → XT → Prop} (hE : hcE t L c) (hL : hnL L c) (hP : hPJ t tm c) (hk : k < c) (hQ : ∀ v, (∀ i, hb v i = true ↔ (i < c ∧ hlk tm L c k i)) → Q v t) :
    ∀ (d i K : Nat) (li : Nat → Int32) (lj : Nat → Int64), i + d = c → 3 * d + 20 ≤ K → li 1 = nI k → li 4 = nI i → (∀ j, hb (lj 2) j = true ↔ (j < i ∧ hlk tm L c k j)) → wpX11_linkOf K 1 t li lj Q := by
  have hc := hL.1
  have ck : (nI k).toNatClampNeg = k := nI_clamp (by omega)
  intro d
  induction d with
  | zero =>
    intro i K li lj hd hK e1 e4 hv
    obtain ⟨K, rfl⟩ : ∃ K', K = K' + 1 := ⟨K - 1, by omega⟩
    obtain rfl : i = c := by omega
    show wbX11_linkOf_1 (wpX11_linkOf K) K t li lj Q
    exact ⟨fun _ => hQ _ hv, fun x => absurd (by rw [hE.1, e4]; exact nI_le (Nat.le_refl _) (by omega)) x⟩
  | succ d ih =>
    intro i K li lj hd hK e1 e4 hv
    obtain ⟨K, rfl⟩ : ∃ K', K = K' + 3 := ⟨K - 3, by omega⟩
    have ci : (nI i).toNatClampNeg = i := nI_clamp (by omega)
    have nx : ∀ (l2 : Nat → Int32) (lj' : Nat → Int64), l2 1 = nI k → l2 4 = nI i → (∀ j, hb (lj' 2) j = true ↔ (j < i + 1 ∧ hlk tm L c k j)) → wpX11_linkOf (K + 1) 3 t l2 lj' Q := by
      intro l2 lj' a1 a4 h
      show wbX11_linkOf_3 (wpX11_linkOf K) K t l2 lj' Q
      intro v ev
      exact ih (i + 1) K _ lj' (by omega) (by omega) a1 (by show v = _; rw [ev, a4]; exact hs_inc i) h
    have no : ∀ (l2 : Nat → Int32), l2 1 = nI k → l2 4 = nI i → ¬ hlk tm L c k i → wpX11_linkOf (K + 1) 3 t l2 lj Q := fun l2 a1 a4 w => nx l2 lj a1 a4 (fun j => (hv j).trans ⟨fun y => ⟨by omega, y.2⟩, fun y => ⟨Nat.lt_of_le_of_ne (by omega) (fun q => w (q ▸ y.2)), y.2⟩⟩)
    obtain ⟨z, z1, z2, ez⟩ := hlk_or hL hk (show i < c by omega)
    have two : ∀ (l2 : Nat → Int32), l2 1 = nI k → l2 4 = nI i → l2 5 = nI z → (l2 100 = 0 ↔ ¬ L k &&& L i = 0) → wpX11_linkOf (K + 2) 2 t l2 lj Q := by
      intro l2 a1 a4 a5 a100
      show wbX11_linkOf_2 (wpX11_linkOf (K + 1)) (K + 1) t l2 lj Q
      unfold wbX11_linkOf_2
      rw [a4, a5]
      refine hnx_number hE hL (by omega) (fun j j1 j2 ej => ?_) (fun nn => absurd rfl (nn z z1 z2))
      have jz : j = z := (nI_eq (by omega) (by omega)).mp ej.symm
      subst jz
      refine ⟨fun e => no _ a1 a4 (fun w => (a100.mp e) w.2.1), fun ne => ?_⟩
      have ap : L k &&& L i = 0 := Classical.byContradiction (fun q => ne (a100.mpr q))
      refine hpx_isThere (a := nI i) hE.1 hP hc (by omega) (fun x hx ex gx => ⟨fun q => absurd q (by decide), fun _ => ?_⟩) (fun ng => ⟨fun _ => no _ a1 a4 (fun w => ng i (by omega) rfl w.1), fun q => absurd rfl q⟩)
      have xi : x = i := (nI_eq (by omega) (by omega)).mp ex.symm
      rw [xi] at gx
      have gi : hm_gone tm i = 0 := Classical.byContradiction gx
      have num := hlk_num (tm := tm) hL ez gi ap
      refine hpx_isThere (a := hnO L c j) hE.1 hP hc (by omega) (fun x hx ex gx => ⟨fun q => absurd q (by decide), fun _ => ?_⟩) (fun ng => ⟨fun _ => no _ a1 a4 (fun w => ?_), fun q => absurd rfl q⟩)
      · have yes := num.mpr ⟨x, hx, ex, Classical.byContradiction gx⟩
        refine hw_bit (k := i) (by omega) (by omega) (fun r15 f15 v16 f16 => nx _ _ a1 a4 (fun y => ?_))
        show hb v16 y = true ↔ _
        rw [f16, hb_put f15 y, hv y]
        refine ⟨fun w => ?_, fun w => ?_⟩
        · rcases w with w | w
          · exact ⟨by omega, w.2⟩
          · rw [w]; exact ⟨by omega, yes⟩
        · by_cases q : y = i
          · exact Or.inr q
          · exact Or.inl ⟨by omega, w.2⟩
      · obtain ⟨x, x1, x2, x3⟩ := num.mp w
        exact (ng x x1 x2) x3
    show wbX11_linkOf_1 (wpX11_linkOf (K + 2)) (K + 2) t li lj Q
    unfold wbX11_linkOf_1
    rw [e1, e4]
    refine ⟨fun x => absurd x (by rw [hE.1]; exact nI_ge (by omega) (by omega)), fun _ => ⟨vp_in_nI (n := k) (by omega) (by decide), fun v2 f2 => ⟨vp_in_nI (n := i) (by omega) (by decide), fun v3 f3 v4 f4 => ⟨vp_in_nI (n := k) (by omega) (by decide), fun v5 f5 => ⟨vp_in_nI (n := i) (by omega) (by decide), fun v6 f6 v7 f7 => ?_⟩⟩⟩⟩⟩
    rw [ck, hE.2.1 k hk] at f2 f5
    rw [ci, hE.2.1 i (by omega)] at f3 f6
    rw [f2, f3, ez] at f4
    rw [f5, f6] at f7
    exact ⟨fun nz => two _ e1 e4 f4 ⟨fun _ q => nz (f7.trans q), fun _ => rfl⟩, fun q => two _ e1 e4 f4 ⟨fun w => absurd (show (1 : Int32) = 0 from w) (by decide), fun w => absurd (f7.symm.trans q) w⟩⟩
theorem hmx_link_go {t : XT} {L : Nat → Int32} {c k : Nat} {b : Int32} {lj : Nat → Int64} {Q : Int32 → XT → Prop} (hM : hmE t L c) (hL : hnL L c) (hk : k < c) (hQ : Q (hlw L b c (hlk t L c k)) t) :
    ∀ (d i K : Nat) (li : Nat → Int32), i + d = c → 3 * d + 20 ≤ K → li 1 = nI k → li 2 = b → li 3 = hlw L b i (hlk t L c k) → li 4 = nI i → wpX12_link K 2 t li lj Q := by
  have hc := hL.1
  have ck : (nI k).toNatClampNeg = k := nI_clamp (by omega)
  intro d
  induction d with
  | zero =>
    intro i K li hd hK e1 e2 e3 e4
    obtain ⟨K, rfl⟩ : ∃ K', K = K' + 1 := ⟨K - 1, by omega⟩
    obtain rfl : i = c := by omega
    show wbX12_link_2 (wpX12_link K) K t li lj Q
    exact ⟨fun _ => by rw [e3]; exact hQ, fun x => absurd (show t.1 3 ≤ li 4 by rw [hM.1, e4]; exact nI_le (by omega) (by omega)) x⟩
  | succ d ih =>
    intro i K li hd hK e1 e2 e3 e4
    obtain ⟨K, rfl⟩ : ∃ K', K = K' + 3 := ⟨K - 3, by omega⟩
    have ci : (nI i).toNatClampNeg = i := nI_clamp (by omega)
    have nx : ∀ (K2 : Nat) (l2 : Nat → Int32), K + 1 ≤ K2 → l2 1 = nI k → l2 2 = b → l2 3 = hlw L b (i + 1) (hlk t L c k) → l2 4 = nI i → wpX12_link K2 4 t l2 lj Q := by
      intro K2 l2 hK2 a1 a2 a3 a4
      obtain ⟨K2, rfl⟩ : ∃ K', K2 = K' + 1 := ⟨K2 - 1, by omega⟩
      show wbX12_link_4 (wpX12_link K2) K2 t l2 lj Q
      intro v ev
      exact ih (i + 1) K2 _ (by omega) (by omega) a1 a2 a3 (by show v = _; rw [ev, a4]; exact hs_inc i)
    have no : ¬ hlk t L c k i → wpX12_link (K + 2) 4 t li lj Q := fun w => nx (K + 2) li (by omega) e1 e2 (by rw [hlw_no w]; exact e3) e4
    have add : ∀ (y w : Int32), hlw L b i (hlk t L c k) + w = hlw L b (i + 1) (hlk t L c k) → wpX12_link (K + 2) 3 t (uI (uI (uI li 5 y) 101 w) 100 (li 3)) lj Q := by
      intro y w ew
      show wbX12_link_3 (wpX12_link (K + 1)) (K + 1) t (uI (uI (uI li 5 y) 101 w) 100 (li 3)) lj Q
      intro v ev
      exact nx (K + 1) _ (by omega) e1 e2 (show v = _ from ev.trans (by rw [← ew, ← e3]; rfl)) e4
    obtain ⟨di, di5, hdi⟩ := hnL_bc hL (show i < c by omega)
    have dim : hm_dim t i = nI di := by
      show hm_bc (t.2.2.1 2 i) - 1 = nI di
      rw [hM.2.1 i (by omega), hdi]; exact nI_pred di
    obtain ⟨z, z1, z2, ez⟩ := hlk_or hL hk (show i < c by omega)
    show wbX12_link_2 (wpX12_link (K + 2)) (K + 2) t li lj Q
    unfold wbX12_link_2
    rw [e1, e2, e4]
    refine ⟨fun x => absurd (show t.1 3 ≤ nI i from x) (by rw [hM.1]; exact nI_ge (by omega) (by omega)), fun _ => ?_⟩
    refine hm_isThere hM.1 hc (by omega) (fun j hj ej gj => ⟨fun q => absurd q (by decide), fun _ => ?_⟩) (fun ng => ⟨fun _ => no (fun w => ng i (by omega) rfl w.1), fun q => absurd rfl q⟩)
    have gi : hm_gone t i = 0 := by
      have := (nI_eq (by omega) (by omega)).mp ej
      rw [this]; exact gj
    refine ⟨vp_in_nI (n := i) (by omega) (by decide), fun v8 f8 => ⟨vp_in_nI (n := k) (by omega) (by decide), fun v9 f9 v10 f10 => ?_⟩⟩
    rw [ci, hM.2.1 i (by omega)] at f8
    rw [ck, hM.2.1 k hk] at f9
    rw [f8, f9, Int32.and_comm] at f10
    refine ⟨fun q => ?_, fun q => no (fun w => q (f10.trans w.2.1))⟩
    have ap : L k &&& L i = 0 := f10.symm.trans q
    have num := hlk_num (tm := t) hL ez gi ap
    refine ⟨vp_in_nI (n := i) (by omega) (by decide), fun v12 f12 => ⟨vp_in_nI (n := k) (by omega) (by decide), fun v13 f13 v14 f14 => ?_⟩⟩
    rw [ci, hM.2.1 i (by omega)] at f12
    rw [ck, hM.2.1 k hk] at f13
    rw [f12, f13, Int32.or_comm, ez] at f14
    rw [f14]
    refine ⟨vp_in_nI (n := z) z2 (by decide), fun v15 f15 => ?_⟩
    have f15 : v15 = hnO L c z := f15.trans ((congrArg (t.2.2.1 3) (nI_clamp (by omega))).trans (hM.2.2 (by omega) z z2))
    refine ⟨fun w => no (fun y => ?_), fun w => ?_⟩
    · obtain ⟨x, x1, x2, _⟩ := num.mp y
      exact hs_nI_neg (by omega) (x2.symm.trans (f15.symm.trans w))
    · refine hm_isThere (a := v15) hM.1 hc (by omega) (fun j hj ej gj => ⟨fun q => absurd q (by decide), fun _ => ?_⟩) (fun ng => ⟨fun _ => no (fun y => ?_), fun q => absurd rfl q⟩)
      · have yes := num.mpr ⟨j, hj, f15.symm.trans ej, gj⟩
        refine ⟨fun nz => hmx_alternating (by omega) dim di5 (by omega) (add v15 (hEa di) ?_), fun q => add v15 1 ?_⟩
        · unfold hlw
          rw [if_neg nz, if_neg nz, hEu_yes yes hdi di5 5 (by omega), if_pos di5]
        · unfold hlw
          rw [if_pos q, if_pos q, show hst_n (hlk t L c k) (i + 1) = hst_n (hlk t L c k) i + hq_sel (hlk t L c k i) 1 from rfl, hq_sel1 yes]; exact nI_1 _
      · obtain ⟨x, x1, x2, x3⟩ := num.mp y
        exact ng x x1 (f15.trans x2) x3
theorem hpx_link0 {K : Nat} {t : XT} {a b : Int32} {Q : Int32 → XT → Prop} (h : wbX11_link_0 (wpX11_link (K + 1)) (K + 1) t (uI (uI (fun _ => 0) 1 a) 2 b) (fun _ => 0) Q) : wqX11_link (K + 2) t a b Q := h
theorem hmx_link0 {K : Nat} {t : XT} {a b : Int32} {Q : Int32 → XT → Prop} (h : wbX12_link_0 (wpX12_link (K + 1)) (K + 1) t (uI (uI (fun _ => 0) 1 a) 2 b) (fun _ => 0) Q) : wqX12_link (K + 2) t a b Q := h
theorem hac_link (n : Nat) (tx tm : XT) (p1 p2 : Int32) (hJ : hAl (n + 1) tx tm) : ∃ k, wqX11_link k tx p1 p2 (fun r1 tx' => ∃ k', wqX12_link k' tm p1 p2 (fun r2 tm' => r1 = r2 ∧ hAl n tx' tm')) := by
  obtain ⟨_, c, L, hL, hE, hM, hP, _, _⟩ := id hJ
  have hc := hL.1
  obtain ⟨KA, hKA⟩ : ∃ KA, KA = 1000 := ⟨_, rfl⟩
  refine hfa_link (A := KA + 2) (B := KA + 2) hJ ?_
  have none : ((∀ j, j < c → p1 = nI j → hm_gone tm j ≠ 0) ∨ ∀ d, d ≤ 1 → p2 ≠ nI d) → wqX12_link (KA + 2) tm p1 p2 (fun r2 _ => (-2147483648 : Int32) = r2) := by
    intro w
    refine hmx_link0 (hm_isThere hM.1 hc (by omega) (fun j hj ej gj => ⟨fun q => absurd q (by decide), fun _ => ?_⟩) (fun _ => ⟨fun _ => rfl, fun q => absurd rfl q⟩))
    refine hmx_in (n := 1) (a := p2) (by omega) (by omega) (fun d hd e => ?_) (fun _ => ⟨fun q => absurd rfl q, fun _ => rfl⟩)
    rcases w with w | w
    · exact absurd gj (w j hj ej)
    · exact absurd e (w d hd)
  refine hpx_link0 (hpx_isThere hE.1 hP hc (by omega) (fun k hk ek gk => ⟨fun q => absurd q (by decide), fun _ => ?_⟩) (fun no => ⟨fun _ => none (Or.inl no), fun q => absurd rfl q⟩))
  have ek : p1 = nI k := ek
  refine ⟨fun lt => none (Or.inr (fun d hd e => ?_)), fun n2 => ⟨fun le => ?_, fun nle => none (Or.inr (fun d hd e => ?_))⟩⟩
  · have lt : p2 < 0 := lt
    rw [e] at lt; exact absurd lt (nI_pos (by omega))
  · have le : p2 ≤ 1 := le
    have n2 : ¬ p2 < 0 := n2
    have rng : ∃ d, d ≤ 1 ∧ p2 = nI d := by
      obtain ⟨d, hd, e⟩ := nI_of (x := p2) n2
      rw [e] at le
      exact ⟨d, (nI_leI (a := d) (b := 1) hd (by omega)).mp le, e⟩
    have r : wqX12_link (KA + 2) tm p1 p2 (fun r2 _ => hlw L p2 c (hlk tm L c k) = r2) := by
      refine hmx_link0 (hm_isThere hM.1 hc (by omega) (fun j hj ej gj => ⟨fun q => absurd q (by decide), fun _ => ?_⟩) (fun no => absurd (Classical.byContradiction gk) (no k hk ek)))
      refine hmx_in (n := 1) (a := p2) (by omega) (by omega) (fun d hd e => ⟨fun _ => ?_, fun q => absurd q (by decide)⟩) (fun no => absurd (rng.elim (fun d w => no d w.1 w.2)) (fun q => q))
      refine hmx_link_go (k := k) (b := p2) hM hL hk rfl c 0 (KA + 1) _ (by omega) (by omega) ek rfl ?_ rfl
      show (0 : Int32) = hlw L p2 0 (hlk tm L c k)
      unfold hlw
      rw [hEu_0]
      by_cases q : p2 = 0
      · rw [if_pos q]; rfl
      · rw [if_neg q]
    show wqX11_linkOf (KA + 1) tx p1 _
    rw [ek]
    rw [ek] at r
    refine hpx_linkOf_go hE hL hP hk (fun v hv => ⟨fun nz => ?_, fun q => ?_⟩) c 0 KA (uI (uI (fun _ => 0) 1 (nI k)) 4 0) _ (by omega) (by omega) rfl rfl (fun j => ⟨fun w => absurd ((hb_0 j).symm.trans w) (by decide), fun w => by omega⟩)
    · have nz : ¬ p2 = 0 := nz
      refine hpx_euler hE hc hv (by omega) ?_
      unfold hlw at r
      rw [if_neg nz] at r; exact r
    · have q : p2 = 0 := q
      refine hw_bc64 (by omega) ?_
      unfold hlw at r
      rw [if_pos q] at r
      rw [(hct hv (by omega)).trans (hct_n c)]; exact r
  · have nle : ¬ p2 ≤ 1 := nle
    refine nle ?_
    rw [e]; exact nI_le (a := d) (b := 1) hd (by omega)
