/-! ===== isAcyclic of the reference: 1 just where some function falls ===== -/
def hmy_st (t : XT) (m : Nat) (F : Nat → Int32) (c : Nat) : Prop := ∀ f, f < c → F f = 1 → ∃ g, g < m ∧ g ≠ f ∧ F g = 1 ∧ hm_on t f g
theorem hmy_none {t : XT} {m : Nat} {F : Nat → Int32} (h : hmy_st t m F m) (hl : ∀ k, k < m → F k = 1 → hm_low t k) (hA : hm_acyc t m) : ∀ k, k < m → F k ≠ 1 := by
  obtain ⟨δ, _, hd⟩ := hA
  have key : ∀ d k, k < m → δ k ≤ d → F k ≠ 1 := by
    intro d
    induction d with
    | zero =>
      intro k hk hd0 h1
      obtain ⟨g, hg, ne, g1, on⟩ := h k hk h1
      have := hd k g hk hg (hl k hk h1) (hl g hg g1) ne on
      omega
    | succ d ih =>
      intro k hk hd0 h1
      obtain ⟨g, hg, ne, g1, on⟩ := h k hk h1
      have := hd k g hk hg (hl k hk h1) (hl g hg g1) ne on
      exact ih g hg (by omega) g1
  exact fun k hk => key (δ k) k hk (Nat.le_refl _)
theorem hmy_end {t : XT} {m : Nat} {lj : Nat → Int64} {Q : Int32 → XT → Prop} {F : Nat → Int32} (hm : t.1 3 = nI m) (hm60 : m ≤ 60) (h1 : (∀ k, k < m → F k ≠ 1) → Q 1 (sA t 7 F)) (h0 : ∀ k, k < m → F k = 1 → Q 0 (sA t 7 F)) :
    ∀ (n c K : Nat) (li : Nat → Int32), c + n = m → n + 1 ≤ K → li 2 = nI c → (∀ k, k < c → F k ≠ 1) → wpX12_isAcyclic K 5 (sA t 7 F) li lj Q := by
  intro n
  induction n with
  | zero =>
    intro c K li hn hK e2 hz
    obtain ⟨K, rfl⟩ : ∃ K', K = K' + 1 := ⟨K - 1, by omega⟩
    show wbX12_isAcyclic_5 (wpX12_isAcyclic K) K (sA t 7 F) li lj Q
    refine ⟨fun _ => h1 (fun k hk => hz k (by omega)), fun c1 => absurd (show t.1 3 ≤ li 2 from ?_) c1⟩
    rw [hm, e2]; exact nI_le (by omega) (by omega)
  | succ n ih =>
    intro c K li hn hK e2 hz
    obtain ⟨K, rfl⟩ : ∃ K', K = K' + 1 := ⟨K - 1, by omega⟩
    show wbX12_isAcyclic_5 (wpX12_isAcyclic K) K (sA t 7 F) li lj Q
    unfold wbX12_isAcyclic_5
    rw [e2]
    refine ⟨fun c1 => absurd (show t.1 3 ≤ nI c from c1) ?_, fun _ => ⟨vp_in_nI (by omega) (by decide), fun v15 f15 => ?_⟩⟩
    · rw [hm]; exact nI_ge (by omega) (by omega)
    · have f15 : v15 = F c := f15.trans (congrArg F (nI_clamp (by omega)))
      refine ⟨fun d v17 f17 => ?_, fun d => h0 c (by omega) (f15.symm.trans d)⟩
      refine ih (c + 1) K _ (by omega) (by omega) (f17.trans (hs_inc c)) (fun k hk => ?_)
      by_cases e : k = c
      · rw [e]; exact fun q => d (f15.trans q)
      · exact hz k (by omega)
theorem hmy_scan {t : XT} {m : Nat} {lj : Nat → Int64} {Q : Int32 → XT → Prop} (hm : t.1 3 = nI m) (hm60 : m ≤ 60) (hp : hm_pars t m) (L o0 : Nat)
    (cont : ∀ (K' : Nat) (li' : Nat → Int32) (F' : Nat → Int32), L ≤ K' → hm_ainv t m F' → ((li' 1 = 0 ∧ hmy_st t m F' m) ∨ (¬ li' 1 = 0 ∧ hm_ones m F' < o0)) → wpX12_isAcyclic K' 2 (sA t 7 F') li' lj Q) :
    ∀ (n c K : Nat) (F : Nat → Int32) (li : Nat → Int32), c + n = m → 2 * n + L + 200 ≤ K → hm_ainv t m F → ((li 1 = 0 ∧ hmy_st t m F c) ∨ (¬ li 1 = 0 ∧ hm_ones m F < o0)) → hm_ones m F ≤ o0 → li 2 = nI c → wpX12_isAcyclic K 3 (sA t 7 F) li lj Q := by
  intro n
  induction n with
  | zero =>
    intro c K F li hn hK hF h1 ho e2
    obtain ⟨K, rfl⟩ : ∃ K', K = K' + 1 := ⟨K - 1, by omega⟩
    obtain rfl : c = m := by omega
    show wbX12_isAcyclic_3 (wpX12_isAcyclic K) K (sA t 7 F) li lj Q
    refine ⟨fun _ => cont K li F (by omega) hF h1, fun c1 => absurd (show t.1 3 ≤ li 2 from ?_) c1⟩
    rw [hm, e2]; exact nI_le (by omega) (by omega)
  | succ n ih =>
    intro c K F li hn hK hF h1 ho e2
    obtain ⟨K, rfl⟩ : ∃ K', K = K' + 2 := ⟨K - 2, by omega⟩
    have nx : ∀ (F' : Nat → Int32) (l2 : Nat → Int32), hm_ainv t m F' → ((l2 1 = 0 ∧ hmy_st t m F' (c + 1)) ∨ (¬ l2 1 = 0 ∧ hm_ones m F' < o0)) → hm_ones m F' ≤ o0 → l2 2 = nI c → wpX12_isAcyclic (K + 1) 4 (sA t 7 F') l2 lj Q := by
      intro F' l2 a1 a2 a3 a4
      show wbX12_isAcyclic_4 (wpX12_isAcyclic K) K (sA t 7 F') l2 lj Q
      intro v f13
      exact ih (c + 1) K F' (uI l2 2 v) (by omega) (by omega) a1 a2 a3 (f13.trans ((congrArg (· + Int32.ofInt 1) a4).trans (hs_inc c)))
    have more : (F c = 1 → ∃ g, g < m ∧ g ≠ c ∧ F g = 1 ∧ hm_on t c g) → ((li 1 = 0 ∧ hmy_st t m F (c + 1)) ∨ (¬ li 1 = 0 ∧ hm_ones m F < o0)) := by
      intro w
      refine h1.imp (fun y => ⟨y.1, fun f hf q => ?_⟩) id
      by_cases e : f = c
      · rw [e] at q ⊢; exact w q
      · exact y.2 f (by omega) q
    show wbX12_isAcyclic_3 (wpX12_isAcyclic (K + 1)) (K + 1) (sA t 7 F) li lj Q
    unfold wbX12_isAcyclic_3
    refine ⟨fun c1 => absurd (show t.1 3 ≤ li 2 from c1) ?_, fun _ => ?_⟩
    · rw [hm, e2]; exact nI_ge (by omega) (by omega)
    · rw [e2]
      refine ⟨vp_in_nI (by omega) (by decide), fun v8 f8 => ?_⟩
      have f8 : v8 = F c := f8.trans (congrArg F (nI_clamp (by omega)))
      refine ⟨fun d => nx F li hF (more (fun q => absurd (f8.trans q) d)) ho e2, fun d => ?_⟩
      have one : F c = 1 := f8.symm.trans d
      obtain ⟨p, hpm, ep⟩ := hp c (by omega) (hF.1 c (by omega) one)
      refine hm_leadsOn hm hm60 (f := c) (by omega) hpm ep (by omega) (fun g hg ne g1 fg => ⟨fun _ => nx F li hF (more (fun _ => ⟨g, hg, ne, g1, p, by omega, ep, fg⟩)) ho e2, fun z => absurd z (by decide)⟩) (fun no => ⟨fun z => absurd rfl z, fun _ => ⟨vp_in_nI (by omega) (by decide), fun t12 f12 => ?_⟩⟩)
      have tk := hm_ainv_take hm60 hF (by omega) one ep hpm no
      have e12 : t12 = sA t 7 (upd F c 0) := by
        rw [f12, hm_sAA, nI_clamp (by omega)]; rfl
      rw [e12]
      exact nx _ _ tk.1 (Or.inr ⟨show ¬ (1 : Int32) = 0 by decide, by omega⟩) (by omega) e2
theorem hmy_loop {t : XT} {m : Nat} {lj : Nat → Int64} {Q : Int32 → XT → Prop} (hm : t.1 3 = nI m) (hm60 : m ≤ 60) (hp : hm_pars t m) (h1 : hm_acyc t m → ∀ F, Q 1 (sA t 7 F)) (h0 : ¬ hm_acyc t m → ∀ F, Q 0 (sA t 7 F)) :
    ∀ (M K : Nat) (F : Nat → Int32) (li : Nat → Int32), ((li 1 = 0 ∧ hmy_st t m F m) ∨ (¬ li 1 = 0 ∧ hm_ones m F ≤ M)) → (M + 1) * 400 + 100 ≤ K → hm_ainv t m F → wpX12_isAcyclic K 2 (sA t 7 F) li lj Q := by
  have fin : ∀ (K : Nat) (F : Nat → Int32) (li : Nat → Int32), 100 ≤ K → hm_ainv t m F → hmy_st t m F m → wpX12_isAcyclic K 5 (sA t 7 F) (uI li 2 0) lj Q := by
    intro K F li hK hF hS
    refine hmy_end hm hm60 (fun z => h1 ?_ F) (fun k hk q => h0 (fun hA => hmy_none hS hF.1 hA k hk q) F) m 0 K _ (by omega) (by omega) rfl (fun k hk => absurd hk (by omega))
    obtain ⟨a1, a2, δ, τ, a3, a4⟩ := hF
    have zero : ∀ k, k < m → F k = 0 := fun k hk => (a2 k hk).elim id (fun q => absurd q (z k hk))
    exact ⟨δ, fun f hf lf => Nat.lt_of_lt_of_le (a4 f hf lf (zero f hf)).1 (by omega), fun f g hf hg lf lg ne on => ((a4 f hf lf (zero f hf)).2 g hg ne lg on).2⟩
  intro M
  induction M with
  | zero =>
    intro K F li h hK hF
    obtain ⟨K, rfl⟩ : ∃ K', K = K' + 1 := ⟨K - 1, by omega⟩
    show wbX12_isAcyclic_2 (wpX12_isAcyclic K) K (sA t 7 F) li lj Q
    refine ⟨fun z => fin K F li (by omega) hF (h.elim (fun y => y.2) (fun y => absurd z y.1)), fun c => ?_⟩
    have h : hm_ones m F ≤ 0 := h.elim (fun q => absurd q.1 c) (fun q => q.2)
    refine hmy_scan hm hm60 hp 101 (hm_ones m F) ?_ m 0 K F _ (by omega) (by omega) hF (Or.inl ⟨rfl, fun f hf => absurd hf (by omega)⟩) (Nat.le_refl _) rfl
    intro K' li' F' hK' hF' g
    obtain ⟨z, zs⟩ : li' 1 = 0 ∧ hmy_st t m F' m := g.elim id (fun q => absurd q.2 (by omega))
    obtain ⟨K', rfl⟩ : ∃ K2, K' = K2 + 1 := ⟨K' - 1, by omega⟩
    exact ⟨fun _ => fin K' F' li' (by omega) hF' zs, fun c => absurd z c⟩
  | succ M ih =>
    intro K F li h hK hF
    have hK : (M + 1) * 400 + 400 + 100 ≤ K := by rw [Nat.succ_mul] at hK; exact hK
    obtain ⟨K, rfl⟩ : ∃ K', K = K' + 1 := ⟨K - 1, by omega⟩
    show wbX12_isAcyclic_2 (wpX12_isAcyclic K) K (sA t 7 F) li lj Q
    refine ⟨fun z => fin K F li (by omega) hF (h.elim (fun y => y.2) (fun y => absurd z y.1)), fun c => ?_⟩
    have h : hm_ones m F ≤ M + 1 := h.elim (fun q => absurd q.1 c) (fun q => q.2)
    refine hmy_scan hm hm60 hp ((M + 1) * 400 + 100) (hm_ones m F) ?_ m 0 K F _ (by omega) (by omega) hF (Or.inl ⟨rfl, fun f hf => absurd hf (by omega)⟩) (Nat.le_refl _) rfl
    intro K' li' F' hK' hF' g
    exact ih K' F' li' (g.imp id (fun q => ⟨q.1, by omega⟩)) hK' hF'
theorem hmy_init {t : XT} {m : Nat} {lj : Nat → Int64} {Q : Int32 → XT → Prop} (hm : t.1 3 = nI m) (hm60 : m ≤ 60) (L : Nat)
    (cont : ∀ (K' : Nat) (li' : Nat → Int32) (F' : Nat → Int32), L ≤ K' → ¬ li' 1 = 0 → hm_ainv t m F' → wpX12_isAcyclic K' 2 (sA t 7 F') li' lj Q) :
    ∀ (n c K : Nat) (F : Nat → Int32) (li : Nat → Int32), c + n = m → n + L + 10 ≤ K → (∀ k, k < c → F k = hm_ind (hm_low t k)) → li 1 = nI c → wpX12_isAcyclic K 1 (sA t 7 F) li lj Q := by
  intro n
  induction n with
  | zero =>
    intro c K F li hn hK hF e1
    obtain ⟨K, rfl⟩ : ∃ K', K = K' + 1 := ⟨K - 1, by omega⟩
    show wbX12_isAcyclic_1 (wpX12_isAcyclic K) K (sA t 7 F) li lj Q
    refine ⟨fun _ => cont K _ F (by omega) (show ¬ (1 : Int32) = 0 by decide) ⟨fun k hk q => ?_, fun k hk => ?_, fun _ => 0, 0, ?_, fun f hf lf z => ?_⟩, fun c1 => absurd (show t.1 3 ≤ li 1 from ?_) c1⟩
    · refine Classical.byContradiction (fun no => ?_)
      rw [hF k (by omega), hm_ind0 no] at q
      exact absurd q (by decide)
    · rw [hF k (by omega)]; exact hm_ind01 _
    · have u := hm_ones_le (m := m) (F := F)
      omega
    · rw [hF f (by omega), hm_ind1 lf] at z
      exact absurd z (by decide)
    · rw [hm, e1]; exact nI_le (by omega) (by omega)
  | succ n ih =>
    intro c K F li hn hK hF e1
    obtain ⟨K, rfl⟩ : ∃ K', K = K' + 1 := ⟨K - 1, by omega⟩
    have go : ∀ r : Int32, r = hm_ind (hm_low t c) → vp_in (nI c) 60 ∧ ∀ t4 : XT, t4 = sA (sA t 7 F) 7 (upd ((sA t 7 F).2.2.1 7) (nI c).toNatClampNeg r) → ∀ v5 : Int32, v5 = nI c + Int32.ofInt 1 → wpX12_isAcyclic K 1 t4 (uI li 1 v5) lj Q := by
      intro r er
      refine ⟨vp_in_nI (by omega) (by decide), fun t4 f4 v5 f5 => ?_⟩
      have e4 : t4 = sA t 7 (upd F c r) := by
        rw [f4, hm_sAA, nI_clamp (by omega)]; rfl
      rw [e4]
      refine ih (c + 1) K _ _ (by omega) (by omega) (fun k hk => ?_) (f5.trans (hs_inc c))
      rw [hm_upd_at]
      by_cases e : k = c
      · rw [if_pos e, e]; exact er
      · rw [if_neg e]; exact hF k (by omega)
    show wbX12_isAcyclic_1 (wpX12_isAcyclic K) K (sA t 7 F) li lj Q
    unfold wbX12_isAcyclic_1
    rw [e1]
    refine ⟨fun c1 => absurd (show t.1 3 ≤ nI c from c1) ?_, fun _ => ?_⟩
    · rw [hm]; exact nI_ge (by omega) (by omega)
    · exact hm_isLower (t := sA t 7 F) (by omega) (by omega) (fun q => hm_truth1 (by omega) (go 1 (hm_ind1 q).symm)) (fun q => hm_truth0 (by omega) (go 0 (hm_ind0 q).symm))
theorem hmy_isAcyclic {t : XT} {m K : Nat} {Q : Int32 → XT → Prop} (hm : t.1 3 = nI m) (hm60 : m ≤ 60) (hp : hm_pars t m) (hK : 30000 ≤ K) (h1 : hm_acyc t m → ∀ F, Q 1 (sA t 7 F)) (h0 : ¬ hm_acyc t m → ∀ F, Q 0 (sA t 7 F)) : wqX12_isAcyclic K t Q := by
  obtain ⟨K, rfl⟩ : ∃ K', K = K' + 1 := ⟨K - 1, by omega⟩
  show wbX12_isAcyclic_0 (wpX12_isAcyclic K) K t (fun _ => 0) (fun _ => 0) Q
  obtain ⟨M, hM⟩ : ∃ M, M = 60 := ⟨_, rfl⟩
  have g := hmy_init (t := t) (lj := fun _ => 0) (Q := Q) hm hm60 ((M + 1) * 400 + 100) (fun K' li' F' hK' h1' hF' => hmy_loop hm hm60 hp h1 h0 M K' F' li' (Or.inr ⟨h1', Nat.le_trans hm_ones_le (by omega)⟩) hK' hF') m 0 K (t.2.2.1 7) (uI (fun _ => 0) 1 0) (by omega) (by omega) (fun k hk => absurd hk (by omega)) rfl
  rw [hm_sA0] at g
  exact g
theorem hmy_couples {t : XT} {m f s K : Nat} {Q : Int32 → XT → Prop} (hm : t.1 3 = nI m) (hm60 : m ≤ 60) (hf : f < m) (hs : s < m) (hfs : f < s) (hF : hm_face t f s) (hM : hm_match t m) (ef : hm_par t f = -1) (es : hm_par t s = -1) (hK : 30001 ≤ K)
    (h1 : hm_acyc (sA t 4 (hq_two (t.2.2.1 4) f s)) m → ∀ F, Q 1 (sA (sA t 4 (hq_two (t.2.2.1 4) f s)) 7 F)) (h0 : ¬ hm_acyc (sA t 4 (hq_two (t.2.2.1 4) f s)) m → ∀ F, Q 0 (sA t 7 F)) : wqX12_couples K t (nI f) (nI s) Q := by
  obtain ⟨K, rfl⟩ : ∃ K', K = K' + 1 := ⟨K - 1, by omega⟩
  have cf : (nI f).toNatClampNeg = f := nI_clamp (by omega)
  have cs : (nI s).toNatClampNeg = s := nI_clamp (by omega)
  show wbX12_couples_0 (wpX12_couples K) K t (uI (uI (fun _ => 0) 1 (nI f)) 2 (nI s)) (fun _ => 0) Q
  refine ⟨vp_in_nI (by omega) (by decide), fun t1 e1 => ⟨vp_in_nI (by omega) (by decide), fun t2 e2 => ?_⟩⟩
  have e2' : t2 = sA t 4 (hq_two (t.2.2.1 4) f s) := by
    rw [e2, e1]
    show sA (sA t 4 (upd (t.2.2.1 4) (nI f).toNatClampNeg (nI s))) 4 (upd (upd (t.2.2.1 4) (nI f).toNatClampNeg (nI s)) (nI s).toNatClampNeg (nI f)) = _
    rw [hm_sAA, cf, cs]; rfl
  clear e2
  subst e2'
  have hM2 := hq_match_two hm60 hf hs hfs hF hM ef es
  refine hmy_isAcyclic (t := sA t 4 (hq_two (t.2.2.1 4) f s)) hm hm60 (hm_match_pars hM2) (by omega) (fun hA F => ?_) (fun hA F => ?_)
  · exact ⟨fun c => absurd c (by decide), fun _ => h1 hA F⟩
  · refine ⟨fun _ => ⟨vp_in_nI (by omega) (by decide), fun t5 e5 => ⟨vp_in_nI (by omega) (by decide), fun t6 e6 => ?_⟩⟩, fun c => absurd rfl c⟩
    have e6' : t6 = sA t 7 F := by
      rw [e6, e5]
      show sA (sA (sA (sA t 4 (hq_two (t.2.2.1 4) f s)) 7 F) 4 (upd (hq_two (t.2.2.1 4) f s) (nI f).toNatClampNeg (-1))) 4 (upd (upd (hq_two (t.2.2.1 4) f s) (nI f).toNatClampNeg (-1)) (nI s).toNatClampNeg (-1)) = _
      have z : upd (upd (hq_two (t.2.2.1 4) f s) f (-1)) s (-1) = t.2.2.1 4 := by
        funext j
        show (if j = s then (-1 : Int32) else if j = f then -1 else if j = s then nI f else if j = f then nI s else t.2.2.1 4 j) = t.2.2.1 4 j
        by_cases a : j = s
        · rw [if_pos a, a]; exact es.symm
        · rw [if_neg a]
          by_cases b : j = f
          · rw [if_pos b, b]; exact ef.symm
          · rw [if_neg b, if_neg a, if_neg b]
      rw [hm_sAA, cf, cs, hq_com, z, hm_sA0]
    rw [e6']; exact h0 hA F
