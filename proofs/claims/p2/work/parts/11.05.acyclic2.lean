/-! ===== the reference, without the machine: isAcyclic, whole ===== -/
theorem hm_acyc_scan {t : XT} {m : Nat} {lj : Nat → Int64} {Q : Int32 → XT → Prop} (hm : t.1 3 = nI m) (hm60 : m ≤ 60) (hp : hm_pars t m) (L o0 : Nat)
    (cont : ∀ (K' : Nat) (li' : Nat → Int32) (F' : Nat → Int32), L ≤ K' → hm_ainv t m F' → (li' 1 = 0 ∨ hm_ones m F' < o0) → wpX12_isAcyclic K' 2 (sA t 7 F') li' lj Q) :
    ∀ (n c K : Nat) (F : Nat → Int32) (li : Nat → Int32), c + n = m → 2 * n + L + 200 ≤ K → hm_ainv t m F → (li 1 = 0 ∨ hm_ones m F < o0) → hm_ones m F ≤ o0 → li 2 = nI c → wpX12_isAcyclic K 3 (sA t 7 F) li lj Q := by
  intro n
  induction n with
  | zero =>
    intro c K F li hn hK hF h1 ho e2
    obtain ⟨K, rfl⟩ : ∃ K', K = K' + 1 := ⟨K - 1, by omega⟩
    show wbX12_isAcyclic_3 (wpX12_isAcyclic K) K (sA t 7 F) li lj Q
    refine ⟨fun _ => cont K li F (by omega) hF h1, fun c1 => absurd (show t.1 3 ≤ li 2 from ?_) c1⟩
    rw [hm, e2]; exact nI_le (by omega) (by omega)
  | succ n ih =>
    intro c K F li hn hK hF h1 ho e2
    obtain ⟨K, rfl⟩ : ∃ K', K = K' + 2 := ⟨K - 2, by omega⟩
    have nx : ∀ (F' : Nat → Int32) (l2 : Nat → Int32), hm_ainv t m F' → (l2 1 = 0 ∨ hm_ones m F' < o0) → hm_ones m F' ≤ o0 → l2 2 = nI c → wpX12_isAcyclic (K + 1) 4 (sA t 7 F') l2 lj Q := by
      intro F' l2 a1 a2 a3 a4
      show wbX12_isAcyclic_4 (wpX12_isAcyclic K) K (sA t 7 F') l2 lj Q
      intro v f13
      exact ih (c + 1) K F' (uI l2 2 v) (by omega) (by omega) a1 a2 a3 (f13.trans ((congrArg (· + Int32.ofInt 1) a4).trans (hs_inc c)))
    show wbX12_isAcyclic_3 (wpX12_isAcyclic (K + 1)) (K + 1) (sA t 7 F) li lj Q
    unfold wbX12_isAcyclic_3
    refine ⟨fun c1 => absurd (show t.1 3 ≤ li 2 from c1) ?_, fun _ => ?_⟩
    · rw [hm, e2]; exact nI_ge (by omega) (by omega)
    · rw [e2]
      refine ⟨vp_in_nI (by omega) (by decide), fun v8 f8 => ?_⟩
      have f8 : v8 = F c := f8.trans (congrArg F (nI_clamp (by omega)))
      refine ⟨fun _ => nx F li hF h1 ho e2, fun d => ?_⟩
      have one : F c = 1 := f8.symm.trans d
      obtain ⟨p, hpm, ep⟩ := hp c (by omega) (hF.1 c (by omega) one)
      refine hm_leadsOn hm hm60 (f := c) (by omega) hpm ep (by omega) (fun g _ _ _ _ => ⟨fun _ => nx F li hF h1 ho e2, fun z => absurd z (by decide)⟩) (fun no => ⟨fun z => absurd rfl z, fun _ => ⟨vp_in_nI (by omega) (by decide), fun t12 f12 => ?_⟩⟩)
      have tk := hm_ainv_take hm60 hF (by omega) one ep hpm no
      have e12 : t12 = sA t 7 (upd F c 0) := by
        rw [f12, hm_sAA, nI_clamp (by omega)]; rfl
      rw [e12]
      exact nx _ _ tk.1 (Or.inr (by omega)) (by omega) e2
theorem hm_acyc_loop {t : XT} {m : Nat} {lj : Nat → Int64} {Q : Int32 → XT → Prop} (hm : t.1 3 = nI m) (hm60 : m ≤ 60) (hp : hm_pars t m) (h1 : hm_acyc t m → ∀ F, Q 1 (sA t 7 F)) (h0 : ∀ F, Q 0 (sA t 7 F)) :
    ∀ (M K : Nat) (F : Nat → Int32) (li : Nat → Int32), (li 1 = 0 ∨ hm_ones m F ≤ M) → (M + 1) * 400 + 100 ≤ K → hm_ainv t m F → wpX12_isAcyclic K 2 (sA t 7 F) li lj Q := by
  have fin : ∀ (K : Nat) (F : Nat → Int32) (li : Nat → Int32), 100 ≤ K → hm_ainv t m F → wpX12_isAcyclic K 5 (sA t 7 F) (uI li 2 0) lj Q := by
    intro K F li hK hF
    refine hm_acyc_end hm hm60 (fun z => h1 ?_ F) (h0 F) m 0 K _ (by omega) (by omega) rfl (fun k hk => absurd hk (by omega))
    obtain ⟨a1, a2, δ, τ, a3, a4⟩ := hF
    have zero : ∀ k, k < m → F k = 0 := fun k hk => (a2 k hk).elim id (fun q => absurd q (z k hk))
    exact ⟨δ, fun f hf lf => Nat.lt_of_lt_of_le (a4 f hf lf (zero f hf)).1 (by omega), fun f g hf hg lf lg ne on => ((a4 f hf lf (zero f hf)).2 g hg ne lg on).2⟩
  intro M
  induction M with
  | zero =>
    intro K F li h hK hF
    obtain ⟨K, rfl⟩ : ∃ K', K = K' + 1 := ⟨K - 1, by omega⟩
    show wbX12_isAcyclic_2 (wpX12_isAcyclic K) K (sA t 7 F) li lj Q
    refine ⟨fun _ => fin K F li (by omega) hF, fun c => ?_⟩
    have h : hm_ones m F ≤ 0 := h.elim (fun q => absurd q c) id
    refine hm_acyc_scan hm hm60 hp 101 (hm_ones m F) ?_ m 0 K F _ (by omega) (by omega) hF (Or.inl rfl) (Nat.le_refl _) rfl
    intro K' li' F' hK' hF' g
    have z : li' 1 = 0 := g.elim id (fun q => absurd q (by omega))
    obtain ⟨K', rfl⟩ : ∃ K2, K' = K2 + 1 := ⟨K' - 1, by omega⟩
    exact ⟨fun _ => fin K' F' li' (by omega) hF', fun c => absurd z c⟩
  | succ M ih =>
    intro K F li h hK hF
    have hK : (M + 1) * 400 + 400 + 100 ≤ K := by rw [Nat.succ_mul] at hK; exact hK
    obtain ⟨K, rfl⟩ : ∃ K', K = K' + 1 := ⟨K - 1, by omega⟩
    show wbX12_isAcyclic_2 (wpX12_isAcyclic K) K (sA t 7 F) li lj Q
    refine ⟨fun _ => fin K F li (by omega) hF, fun c => ?_⟩
    have h : hm_ones m F ≤ M + 1 := h.elim (fun q => absurd q c) id
    refine hm_acyc_scan hm hm60 hp ((M + 1) * 400 + 100) (hm_ones m F) ?_ m 0 K F _ (by omega) (by omega) hF (Or.inl rfl) (Nat.le_refl _) rfl
    intro K' li' F' hK' hF' g
    exact ih K' F' li' (g.elim Or.inl (fun q => Or.inr (by omega))) hK' hF'
theorem hm_ones_le {m : Nat} {F : Nat → Int32} : hm_ones m F ≤ m := by
  have key : ∀ n, hm_sum (fun k => if F k = 1 then 1 else 0) n ≤ n := by
    intro n
    induction n with
    | zero => exact Nat.le_refl _
    | succ n ih =>
      show hm_sum (fun k => if F k = 1 then 1 else 0) n + (if F n = 1 then 1 else 0) ≤ n + 1
      by_cases e : F n = 1
      · rw [if_pos e]; omega
      · rw [if_neg e]; omega
  exact key m
theorem hm_acyc_init {t : XT} {m : Nat} {lj : Nat → Int64} {Q : Int32 → XT → Prop} (hm : t.1 3 = nI m) (hm60 : m ≤ 60) (L : Nat)
    (cont : ∀ (K' : Nat) (li' : Nat → Int32) (F' : Nat → Int32), L ≤ K' → hm_ainv t m F' → wpX12_isAcyclic K' 2 (sA t 7 F') li' lj Q) :
    ∀ (n c K : Nat) (F : Nat → Int32) (li : Nat → Int32), c + n = m → n + L + 10 ≤ K → (∀ k, k < c → F k = hm_ind (hm_low t k)) → li 1 = nI c → wpX12_isAcyclic K 1 (sA t 7 F) li lj Q := by
  intro n
  induction n with
  | zero =>
    intro c K F li hn hK hF e1
    obtain ⟨K, rfl⟩ : ∃ K', K = K' + 1 := ⟨K - 1, by omega⟩
    show wbX12_isAcyclic_1 (wpX12_isAcyclic K) K (sA t 7 F) li lj Q
    refine ⟨fun _ => cont K _ F (by omega) ⟨fun k hk q => ?_, fun k hk => ?_, fun _ => 0, 0, ?_, fun f hf lf z => ?_⟩, fun c1 => absurd (show t.1 3 ≤ li 1 from ?_) c1⟩
    · refine Classical.byContradiction (fun no => ?_)
      rw [hF k (by omega), hm_ind0 no] at q
      exact absurd q (by decide)
    · rw [hF k (by omega)]; exact hm_ind01 _
    · have u := hm_ones_le (m := m) (F := F)
      omega
    · rw [hF f (by omega), hm_ind1 lf] at z
      exact absurd z (by decide)
    · rw [hm, e1]; exact nI_le (by omega) (by omega)
  | succ n ih =>
    intro c K F li hn hK hF e1
    obtain ⟨K, rfl⟩ : ∃ K', K = K' + 1 := ⟨K - 1, by omega⟩
    have go : ∀ r : Int32, r = hm_ind (hm_low t c) → vp_in (nI c) 60 ∧ ∀ t4 : XT, t4 = sA (sA t 7 F) 7 (upd ((sA t 7 F).2.2.1 7) (nI c).toNatClampNeg r) → ∀ v5 : Int32, v5 = nI c + Int32.ofInt 1 → wpX12_isAcyclic K 1 t4 (uI li 1 v5) lj Q := by
      intro r er
      refine ⟨vp_in_nI (by omega) (by decide), fun t4 f4 v5 f5 => ?_⟩
      have e4 : t4 = sA t 7 (upd F c r) := by
        rw [f4, hm_sAA, nI_clamp (by omega)]; rfl
      rw [e4]
      refine ih (c + 1) K _ _ (by omega) (by omega) (fun k hk => ?_) (f5.trans (hs_inc c))
      rw [hm_upd_at]
      by_cases e : k = c
      · rw [if_pos e, e]; exact er
      · rw [if_neg e]; exact hF k (by omega)
    show wbX12_isAcyclic_1 (wpX12_isAcyclic K) K (sA t 7 F) li lj Q
    unfold wbX12_isAcyclic_1
    rw [e1]
    refine ⟨fun c1 => absurd (show t.1 3 ≤ nI c from c1) ?_, fun _ => ?_⟩
    · rw [hm]; exact nI_ge (by omega) (by omega)
    · exact hm_isLower (t := sA t 7 F) (by omega) (by omega) (fun q => hm_truth1 (by omega) (go 1 (hm_ind1 q).symm)) (fun q => hm_truth0 (by omega) (go 0 (hm_ind0 q).symm))
theorem hm_isAcyclic {t : XT} {m K : Nat} {Q : Int32 → XT → Prop} (hm : t.1 3 = nI m) (hm60 : m ≤ 60) (hp : hm_pars t m) (hK : 30000 ≤ K) (h1 : hm_acyc t m → ∀ F, Q 1 (sA t 7 F)) (h0 : ∀ F, Q 0 (sA t 7 F)) : wqX12_isAcyclic K t Q := by
  obtain ⟨K, rfl⟩ : ∃ K', K = K' + 1 := ⟨K - 1, by omega⟩
  show wbX12_isAcyclic_0 (wpX12_isAcyclic K) K t (fun _ => 0) (fun _ => 0) Q
  obtain ⟨M, hM⟩ : ∃ M, M = 60 := ⟨_, rfl⟩
  have g := hm_acyc_init (t := t) (lj := fun _ => 0) (Q := Q) hm hm60 ((M + 1) * 400 + 100) (fun K' li' F' hK' hF' => hm_acyc_loop hm hm60 hp h1 h0 M K' F' li' (Or.inr (Nat.le_trans hm_ones_le (by omega))) hK' hF') m 0 K (t.2.2.1 7) (uI (fun _ => 0) 1 0) (by omega) (by omega) (fun k hk => absurd hk (by omega)) rfl
  rw [hm_sA0] at g
  exact g
