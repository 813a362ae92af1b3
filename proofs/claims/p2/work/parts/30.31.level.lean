/-! ===== level answers alike ===== -/
def hlv (t : XT) (a : Int32) (h : Nat → Nat) (k : Nat) : Prop := hm_gone t k = 0 ∧ ¬ a < nI (h k)
theorem hpx_upTo_go {t tm : XT} {c o : Nat} {h g : Nat → Nat} {a : Int32} {Q : Int64 → XT → Prop} (hc : c ≤ 60) (hT : hTL t tm c h o g) (hQ : ∀ v, (∀ k, hb v k = true ↔ (k < c ∧ hlv tm a h k)) → Q v t) :
    ∀ (d i K : Nat) (li : Nat → Int32) (lj : Nat → Int64), i + d = o → 2 * d + 10 ≤ K → li 1 = a → li 4 = nI i → (∀ k, hb (lj 2) k = true ↔ ∃ j, j < i ∧ g j = k ∧ ¬ a < nI (h k)) → wpX2_upTo K 1 t li lj Q := by
  obtain ⟨t1, t2, o60, t4, t5, t6, t7, t8⟩ := hT
  intro d
  induction d with
  | zero =>
    intro i K li lj hd hK e1 e4 hv
    obtain ⟨K, rfl⟩ : ∃ K', K = K' + 1 := ⟨K - 1, by omega⟩
    obtain rfl : i = o := by omega
    show wbX2_upTo_1 (wpX2_upTo K) K t li lj Q
    refine ⟨fun _ => hQ _ (fun k => (hv k).trans ⟨fun w => ?_, fun w => ?_⟩), fun x => absurd (by rw [t4, e4]; exact nI_le (Nat.le_refl _) (by omega)) x⟩
    · obtain ⟨j, hj, e, l⟩ := w
      rw [← e] at l ⊢
      exact ⟨(t5 j hj).2.1, (t5 j hj).2.2, l⟩
    · obtain ⟨j, hj, e⟩ := t7 k w.1 w.2.1
      exact ⟨j, hj, e, w.2.2⟩
  | succ d ih =>
    intro i K li lj hd hK e1 e4 hv
    obtain ⟨K, rfl⟩ : ∃ K', K = K' + 2 := ⟨K - 2, by omega⟩
    obtain ⟨g1, g2, g3⟩ := t5 i (by omega)
    obtain ⟨r1, r2⟩ := t2 (g i) g2 g3
    have ci : (nI i).toNatClampNeg = i := nI_clamp (by omega)
    have cg : (nI (g i)).toNatClampNeg = g i := nI_clamp (by omega)
    have nx : ∀ lj' : Nat → Int64, (∀ k, hb (lj' 2) k = true ↔ ∃ j, j < i + 1 ∧ g j = k ∧ ¬ a < nI (h k)) → wpX2_upTo (K + 1) 2 t li lj' Q := by
      intro lj' hv'
      show wbX2_upTo_2 (wpX2_upTo K) K t li lj' Q
      intro v ev
      exact ih (i + 1) K _ lj' (by omega) (by omega) e1 (by show v = _; rw [ev, e4]; exact hs_inc i) hv'
    show wbX2_upTo_1 (wpX2_upTo (K + 1)) (K + 1) t li lj Q
    unfold wbX2_upTo_1
    rw [e1, e4]
    refine ⟨fun x => absurd x (by rw [t4]; exact nI_ge (by omega) (by omega)), fun _ => ⟨vp_in_nI (n := i) (by omega) (by decide), fun v3 f3 => ?_⟩⟩
    rw [ci, g1] at f3
    subst f3
    refine ⟨vp_in_nI (n := g i) (by omega) (by decide), fun v4 f4 => ?_⟩
    rw [cg, r1] at f4
    subst f4
    refine ⟨fun lt => nx lj (fun k => (hv k).trans ⟨fun w => ?_, fun w => ?_⟩), fun nlt => ⟨vp_in_nI (n := i) (by omega) (by decide), fun v6 f6 => ?_⟩⟩
    · obtain ⟨j, hj, e, l⟩ := w
      exact ⟨j, by omega, e, l⟩
    · obtain ⟨j, hj, e, l⟩ := w
      by_cases z : j = i
      · rw [← e, z] at l; exact absurd lt l
      · exact ⟨j, by omega, e, l⟩
    · rw [ci, g1] at f6
      subst f6
      refine hw_bit (k := g i) (by omega) (by omega) (fun r7 f7 v8 f8 => nx _ (fun k => ?_))
      show hb v8 k = true ↔ _
      rw [f8, hb_put f7 k, hv k]
      refine ⟨fun w => ?_, fun w => ?_⟩
      · rcases w with ⟨j, hj, e, l⟩ | w
        · exact ⟨j, by omega, e, l⟩
        · exact ⟨i, by omega, w.symm, by rw [w]; exact nlt⟩
      · obtain ⟨j, hj, e, l⟩ := w
        by_cases z : j = i
        · exact Or.inr (by rw [← e, z])
        · exact Or.inl ⟨j, by omega, e, l⟩
theorem hpx_upTo {tx tm : XT} {L : Nat → Int32} {c n n' K : Nat} {a : Int32} {Q : Int64 → XT → Prop} (hE : hcE tx L c) (hM : hmE tm L c) (hL : hnL L c) (hP : hPJ tx tm c) (hI : hq_inv tm c n') (g : hNk n tx) (hK : 400 ≤ K) (hQ : ∀ t' h o g v, hcE t' L c → hPJ t' tm c → hTL t' tm c h o g → (∀ k, hb v k = true ↔ (k < c ∧ hlv tm a h k)) → Q v t') : wqX2_upTo K tx a Q := by
  obtain ⟨K, rfl⟩ : ∃ K', K = K' + 1 := ⟨K - 1, by omega⟩
  show wbX2_upTo_0 (wpX2_upTo K) K tx (uI (fun _ => 0) 1 a) (fun _ => 0) Q
  refine hpx_measure hE hM hL hP hI g (by omega) (fun t' h o g' _ hE' hP' hT => ?_)
  have o60 := hT.2.2.1
  exact hpx_upTo_go hL.1 hT (fun v hv => hQ t' h o g' v hE' hP' hT hv) o 0 K _ _ (by omega) (by omega) rfl rfl (fun k => ⟨fun w => absurd ((hb_0 k).symm.trans w) (by decide), fun w => by obtain ⟨j, hj, _⟩ := w; omega⟩)
/-- what level answers -/
noncomputable def hlw (L : Nat → Int32) (b : Int32) (c : Nat) (p : Nat → Prop) : Int32 := if b = 0 then nI (hst_n p c) else hEu L c p 5
theorem hlw_no {L : Nat → Int32} {b : Int32} {c : Nat} {p : Nat → Prop} (h : ¬ p c) : hlw L b (c + 1) p = hlw L b c p := by
  unfold hlw
  rw [hEu_no h 5, show hst_n p (c + 1) = hst_n p c + hq_sel (p c) 1 from rfl, hq_sel0 h]; rfl
theorem hmx_level_go {t : XT} {L : Nat → Int32} {c : Nat} {f : Nat → Int32} {h : Nat → Nat} {a b : Int32} {lj : Nat → Int64} {Q : Int32 → XT → Prop} (hM : hmE t L c) (hL : hnL L c) (hf : ∀ k, k < c → f k = nI (h k)) (hQ : Q (hlw L b c (hlv t a h)) (sA t 6 f)) :
    ∀ (d i K : Nat) (li : Nat → Int32), i + d = c → 3 * d + 20 ≤ K → li 1 = a → li 2 = b → li 3 = hlw L b i (hlv t a h) → li 4 = nI i → wpX12_level K 2 (sA t 6 f) li lj Q := by
  have hc := hL.1
  have hM' : hmE (sA t 6 f) L c := hM
  have gg : ∀ k, hm_gone (sA t 6 f) k = hm_gone t k := fun _ => rfl
  intro d
  induction d with
  | zero =>
    intro i K li hd hK e1 e2 e3 e4
    obtain ⟨K, rfl⟩ : ∃ K', K = K' + 1 := ⟨K - 1, by omega⟩
    obtain rfl : i = c := by omega
    show wbX12_level_2 (wpX12_level K) K (sA t 6 f) li lj Q
    exact ⟨fun _ => by rw [e3]; exact hQ, fun x => absurd (show t.1 3 ≤ li 4 by rw [hM.1, e4]; exact nI_le (by omega) (by omega)) x⟩
  | succ d ih =>
    intro i K li hd hK e1 e2 e3 e4
    obtain ⟨K, rfl⟩ : ∃ K', K = K' + 3 := ⟨K - 3, by omega⟩
    have nx : ∀ (K2 : Nat) (l2 : Nat → Int32), K + 1 ≤ K2 → l2 1 = a → l2 2 = b → l2 3 = hlw L b (i + 1) (hlv t a h) → l2 4 = nI i → wpX12_level K2 4 (sA t 6 f) l2 lj Q := by
      intro K2 l2 hK2 a1 a2 a3 a4
      obtain ⟨K2, rfl⟩ : ∃ K', K2 = K' + 1 := ⟨K2 - 1, by omega⟩
      show wbX12_level_4 (wpX12_level K2) K2 (sA t 6 f) l2 lj Q
      intro v ev
      exact ih (i + 1) K2 _ (by omega) (by omega) a1 a2 a3 (by show v = _; rw [ev, a4]; exact hs_inc i)
    have no : ¬ hlv t a h i → wpX12_level (K + 2) 4 (sA t 6 f) li lj Q := fun w => nx (K + 2) li (by omega) e1 e2 (by rw [hlw_no w]; exact e3) e4
    have add : ∀ w : Int32, hlw L b i (hlv t a h) + w = hlw L b (i + 1) (hlv t a h) → wpX12_level (K + 2) 3 (sA t 6 f) (uI (uI li 101 w) 100 (li 3)) lj Q := by
      intro w ew
      show wbX12_level_3 (wpX12_level (K + 1)) (K + 1) (sA t 6 f) (uI (uI li 101 w) 100 (li 3)) lj Q
      intro v ev
      exact nx (K + 1) _ (by omega) e1 e2 (show v = _ from ev.trans (by rw [← ew, ← e3]; rfl)) e4
    have ci : (nI i).toNatClampNeg = i := nI_clamp (by omega)
    obtain ⟨di, di5, hdi⟩ := hnL_bc hL (show i < c by omega)
    have dim : hm_dim (sA t 6 f) i = nI di := by
      show hm_bc (t.2.2.1 2 i) - 1 = nI di
      rw [hM.2.1 i (by omega), hdi]; exact nI_pred di
    show wbX12_level_2 (wpX12_level (K + 2)) (K + 2) (sA t 6 f) li lj Q
    unfold wbX12_level_2
    rw [e1, e2, e4]
    refine ⟨fun x => absurd (show t.1 3 ≤ nI i from x) (by rw [hM.1]; exact nI_ge (by omega) (by omega)), fun _ => ?_⟩
    refine hm_isThere hM'.1 hc (by omega) (fun j hj ej gj => ⟨fun z => absurd z (by decide), fun _ => ?_⟩) (fun ng => ⟨fun _ => no (fun w => ng i (by omega) rfl w.1), fun z => absurd rfl z⟩)
    have gi : hm_gone t i = 0 := by
      have := (nI_eq (by omega) (by omega)).mp ej
      rw [this]; exact gj
    refine ⟨vp_in_nI (n := i) (by omega) (by decide), fun v8 f8 => ?_⟩
    have f8 : v8 = nI (h i) := f8.trans ((congrArg f ci).trans (hf i (by omega)))
    subst f8
    refine ⟨fun lt => no (fun w => w.2 lt), fun nlt => ?_⟩
    have yes : hlv t a h i := ⟨gi, nlt⟩
    refine ⟨fun nz => hmx_alternating (by omega) dim di5 (by omega) (add (hEa di) ?_), fun z => add 1 ?_⟩
    · unfold hlw
      rw [if_neg nz, if_neg nz, hEu_yes yes hdi di5 5 (by omega), if_pos di5]
    · unfold hlw
      rw [if_pos z, if_pos z, show hst_n (hlv t a h) (i + 1) = hst_n (hlv t a h) i + hq_sel (hlv t a h i) 1 from rfl, hq_sel1 yes]; exact nI_1 _
theorem hpx_level0 {K : Nat} {t : XT} {a b : Int32} {Q : Int32 → XT → Prop} (h : wbX11_level_0 (wpX11_level (K + 1)) (K + 1) t (uI (uI (fun _ => 0) 1 a) 2 b) (fun _ => 0) Q) : wqX11_level (K + 2) t a b Q := h
theorem hmx_level0 {K : Nat} {t : XT} {a b : Int32} {Q : Int32 → XT → Prop} (h : wbX12_level_0 (wpX12_level (K + 1)) (K + 1) t (uI (uI (fun _ => 0) 1 a) 2 b) (fun _ => 0) Q) : wqX12_level (K + 2) t a b Q := h
theorem hEu_ext {L : Nat → Int32} {c : Nat} {p q : Nat → Prop} (e : ∀ k, k < c → (p k ↔ q k)) : ∀ i, hEu L c p i = hEu L c q i := by
  intro i
  induction i with
  | zero => rfl
  | succ i ih =>
    have en : hEn L c p i = hEn L c q i := by
      unfold hEn
      rw [hst_eqv c (fun k hk => and_congr_left (fun _ => e k hk))]
    show hEu L c p i + _ = hEu L c q i + _
    rw [ih, en]
/-- two rows of HEIGHTS -/
theorem hlv_uni {tm : XT} {a : Int32} {c : Nat} {h h' : Nat → Nat} (u : hHt (hm_step tm) c h) (v : hHt (hm_step tm) c h') {k : Nat} (hk : k < c) : hlv tm a h k ↔ hlv tm a h' k := by
  unfold hlv
  rw [hHt_uni u v hk]
theorem hac_level (n : Nat) (tx tm : XT) (p1 p2 : Int32) (hJ : hAl (n + 1) tx tm) (g : hNk (n + 1) tx) : ∃ k, wqX11_level k tx p1 p2 (fun r1 tx' => ∃ k', wqX12_level k' tm p1 p2 (fun r2 tm' => r1 = r2 ∧ hAl n tx' tm')) := by
  obtain ⟨hJ', c, L, hL, hE, hM, hP, _, _⟩ := id hJ
  have hc := hL.1
  obtain ⟨n', hI⟩ := hal_inv hJ' hM hc
  obtain ⟨ρ, hρ⟩ := hm_falls_of hc hI.2.2.2.1 hI.2.2.2.2.1
  obtain ⟨KA, hKA⟩ : ∃ KA, KA = 1000 := ⟨_, rfl⟩
  obtain ⟨M, hMM⟩ : ∃ M, M = 10000000000000 := ⟨_, rfl⟩
  refine hfa_level (A := KA + 2) (B := M + 2) hJ ?_
  have none : (p1 < 0 ∨ ∀ d, d ≤ 1 → p2 ≠ nI d) → wqX12_level (M + 2) tm p1 p2 (fun r2 _ => (-1 : Int32) = r2) := by
    intro w
    refine hmx_level0 ⟨fun _ => rfl, fun n1 => ?_⟩
    refine hmx_in (n := 1) (a := p2) (by omega) (by omega) (fun d hd e => ?_) (fun _ => ⟨fun z => absurd rfl z, fun _ => rfl⟩)
    rcases w with w | w
    · exact absurd w n1
    · exact absurd e (w d hd)
  refine hpx_level0 ⟨fun lt => none (Or.inl lt), fun nlt => ⟨fun lt => none (Or.inr (fun d hd e => ?_)), fun n2 => ⟨fun le => ?_, fun nle => none (Or.inr (fun d hd e => ?_))⟩⟩⟩
  · have lt : p2 < 0 := lt
    rw [e] at lt; exact absurd lt (nI_pos (by omega))
  · have nlt : ¬ p1 < 0 := nlt
    have le : p2 ≤ 1 := le
    have n2 : ¬ p2 < 0 := n2
    have rng : ∃ d, d ≤ 1 ∧ p2 = nI d := by
      obtain ⟨d, hd, e⟩ := nI_of (x := p2) n2
      rw [e] at le
      have := (nI_leI (a := d) (b := 1) hd (by omega)).mp le
      exact ⟨d, this, e⟩
    have ref : ∀ {h o g t'}, hTL t' tm c h o g → wqX12_level (M + 2) tm p1 p2 (fun r2 _ => hlw L p2 c (hlv tm p1 h) = r2) := by
      intro h o g t' hT
      refine hmx_level0 ⟨fun z => absurd z nlt, fun _ => ?_⟩
      refine hmx_in (n := 1) (a := p2) (by omega) (by omega) (fun d hd e => ⟨fun _ => ?_, fun z => absurd z (by decide)⟩) (fun no => absurd (rng.elim (fun d w => no d w.1 w.2)) (fun z => z))
      refine ho_laysHeights hM.1 hc hρ (by omega) (fun f h' hh hf => ?_)
      refine hmx_level_go (h := h') hM hL (fun k hk => (hf k hk).1) ?_ c 0 (M + 1) _ (by omega) (by omega) rfl rfl ?_ rfl
      · show hlw L p2 c (hlv tm p1 h) = hlw L p2 c (hlv tm p1 h')
        have e1 : hst_n (hlv tm p1 h) c = hst_n (hlv tm p1 h') c := hst_eqv c (fun k hk => hlv_uni hT.1 hh hk)
        have e2 : hEu L c (hlv tm p1 h) 5 = hEu L c (hlv tm p1 h') 5 := hEu_ext (p := hlv tm p1 h) (q := hlv tm p1 h') (fun k hk => hlv_uni hT.1 hh hk) 5
        unfold hlw
        rw [e1, e2]
      · show (0 : Int32) = hlw L p2 0 (hlv tm p1 h')
        unfold hlw
        rw [hEu_0]
        by_cases z : p2 = 0
        · rw [if_pos z]; rfl
        · rw [if_neg z]
    refine hpx_upTo hE hM hL hP hI g (by omega) (fun t' h o g' v hE' hP' hT hv => ⟨fun nz => ?_, fun z => ?_⟩)
    · have nz : ¬ p2 = 0 := nz
      refine hpx_euler hE' hc hv (by omega) ?_
      have r := ref hT
      unfold hlw at r
      rw [if_neg nz] at r; exact r
    · have z : p2 = 0 := z
      refine hw_bc64 (by omega) ?_
      have r := ref hT
      unfold hlw at r
      rw [if_pos z] at r
      rw [(hct hv (by omega)).trans (hct_n c)]; exact r
  · have nle : ¬ p2 ≤ 1 := nle
    refine nle ?_
    rw [e]; exact nI_le (a := d) (b := 1) hd (by omega)
