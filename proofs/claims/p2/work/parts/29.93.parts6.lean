/-! ===== count 6: partsMany to its end; count answers alike ===== -/
theorem hmx_parts_count {t : XT} {m : Nat} {q : Nat → Prop} {F : Nat → Int32} {lj : Nat → Int64} {Q : Int32 → XT → Prop} (hm : t.1 3 = nI m) (hm60 : m ≤ 60) (hq : ∀ k, k < m → (q k ↔ (hm_gone t k = 0 ∧ F k = nI k))) (hQ : Q (nI (hst_n q m)) (sA t 7 F)) :
    ∀ (d c K : Nat) (li : Nat → Int32), c + d = m → 3 * d + 10 ≤ K → li 2 = nI (hst_n q c) → li 3 = nI c → wpX12_partsMany K 6 (sA t 7 F) li lj Q := by
  intro d
  induction d with
  | zero =>
    intro c K li hd hK e2 e3
    obtain ⟨K, rfl⟩ : ∃ K', K = K' + 1 := ⟨K - 1, by omega⟩
    obtain rfl : c = m := by omega
    show wbX12_partsMany_6 (wpX12_partsMany K) K (sA t 7 F) li lj Q
    exact ⟨fun _ => by rw [e2]; exact hQ, fun x => absurd (show t.1 3 ≤ li 3 by rw [hm, e3]; exact nI_le (by omega) (by omega)) x⟩
  | succ d ih =>
    intro c K li hd hK e2 e3
    obtain ⟨K, rfl⟩ : ∃ K', K = K' + 3 := ⟨K - 3, by omega⟩
    have cc : (nI c).toNatClampNeg = c := nI_clamp (by omega)
    have sn : hst_n q (c + 1) = hst_n q c + hq_sel (q c) 1 := rfl
    have eight : ∀ (k : Nat) (b : Int32) (li' : Nat → Int32), K ≤ k → li' 3 = nI c → li' 100 = li 2 → li' 101 = b → ((if b = 0 then (0 : Int32) else 1) = nI (hq_sel (q c) 1)) → wpX12_partsMany (k + 1) 8 (sA t 7 F) li' lj Q := by
      intro k b li' hk a3 a100 a101 hb
      show wbX12_partsMany_8 (wpX12_partsMany k) k (sA t 7 F) li' lj Q
      unfold wbX12_partsMany_8
      rw [a101, a100]
      refine hm_truth (by omega) (fun v e v' e' => ?_)
      refine ih (c + 1) k _ (by omega) (by omega) (show v = _ from ?_) (show v' = _ from ?_)
      · rw [e, hb, e2, sn]; exact nI_add _ _
      · rw [e', a3]; exact hs_inc c
    have seven : ¬ q c → wpX12_partsMany (K + 2) 7 (sA t 7 F) (uI li 100 (li 2)) lj Q := by
      intro no
      show wbX12_partsMany_7 (wpX12_partsMany (K + 1)) (K + 1) (sA t 7 F) (uI li 100 (li 2)) lj Q
      exact eight K 0 _ (Nat.le_refl K) e3 rfl rfl (by rw [hq_sel0 no]; rfl)
    show wbX12_partsMany_6 (wpX12_partsMany (K + 2)) (K + 2) (sA t 7 F) li lj Q
    unfold wbX12_partsMany_6
    rw [e3]
    refine ⟨fun x => absurd (show t.1 3 ≤ nI c from x) (by rw [hm]; exact nI_ge (by omega) (by omega)), fun _ => ?_⟩
    refine hm_isThere (t := sA t 7 F) hm hm60 (by omega) (fun j hj ej gj => ⟨fun x => absurd x (by decide), fun _ => ⟨vp_in_nI (by omega) (by decide), fun v22 e22 => ?_⟩⟩) (fun no => ⟨fun _ => seven (fun w => no c (by omega) rfl ((hq c (by omega)).mp w).1), fun x => absurd rfl x⟩)
    have e22 : v22 = F c := e22.trans (congrArg F cc)
    have gc : hm_gone t c = 0 := by
      have := (nI_eq (by omega) (by omega)).mp ej
      rw [this]; exact gj
    refine ⟨fun ne => seven (fun w => ne (e22.trans ((hq c (by omega)).mp w).2)), fun eq => ?_⟩
    have qc : q c := (hq c (by omega)).mpr ⟨gc, e22.symm.trans eq⟩
    exact eight (K + 1) 1 _ (by omega) e3 rfl rfl (by rw [hq_sel1 qc]; rfl)
theorem hmx_parts_loop {t : XT} {L0 : Nat → Int32} {m : Nat} {p : Nat → Prop} {lj : Nat → Int64} {Q : Int32 → XT → Prop} (hM : hmE t L0 m) (hL0 : hnL L0 m) (hp : ∀ k, k < m → (p k ↔ hm_gone t k = 0)) (hQ : ∀ F, Q (nI (hst_n (hzM L0 m p) m)) (sA t 7 F)) :
    ∀ (a K : Nat) (F : Nat → Int32) (li : Nat → Int32), 8000 * a + 300 ≤ K → hq_from m F → hzJ L0 m p F → (li 1 = 0 → hzD L0 m p F m 0) → (li 1 = 0 ∨ hq_mu m F < a) → wpX12_partsMany K 2 (sA t 7 F) li lj Q := by
  have hm := hM.1
  have hm60 := hL0.1
  have fin : ∀ (K : Nat) (F li : Nat → Int32), 250 ≤ K → hzJ L0 m p F → hzD L0 m p F m 0 → li 2 = 0 → li 3 = 0 → wpX12_partsMany K 6 (sA t 7 F) li lj Q := by
    intro K F li hK hJ hD e2 e3
    exact hmx_parts_count hm hm60 (fun k hk => (hzD_all hm60 hJ hD hk).trans (and_congr (hp k hk) Iff.rfl)) (hQ F) m 0 K li (by omega) (by omega) e2 e3
  intro a
  induction a with
  | zero =>
    intro K F li hK hF hJ hD hv
    obtain ⟨K, rfl⟩ : ∃ K', K = K' + 1 := ⟨K - 1, by omega⟩
    show wbX12_partsMany_2 (wpX12_partsMany K) K (sA t 7 F) li lj Q
    refine ⟨fun z => fin K F _ (by omega) hJ (hD z) rfl rfl, fun x => ?_⟩
    rcases hv with y | y
    · exact absurd y x
    · omega
  | succ a ih =>
    intro K F li hK hF hJ hD hv
    obtain ⟨K, rfl⟩ : ∃ K', K = K' + 1 := ⟨K - 1, by omega⟩
    show wbX12_partsMany_2 (wpX12_partsMany K) K (sA t 7 F) li lj Q
    refine ⟨fun z => fin K F _ (by omega) hJ (hD z) rfl rfl, fun x => ?_⟩
    have lt : hq_mu m F < a + 1 := by
      rcases hv with y | y
      · exact absurd y x
      · exact y
    obtain ⟨L, hL⟩ : ∃ L, L = 8000 * a + 300 := ⟨_, rfl⟩
    refine hmx_parts_out (μ0 := hq_mu m F) hM hL0 hp L (by omega) (fun K' F' li' h1 h2 h3 h4 => ih K' F' li' (by omega) h2.1 h3 h4 ?_) m 0 K F _ (by omega) (by omega) ⟨hF, Nat.le_refl _, Or.inl rfl⟩ hJ (fun _ a b o => absurd o (by omega)) rfl
    rcases h2.2.2 with y | y
    · exact Or.inl y
    · exact Or.inr (by omega)
theorem hmx_parts_init {t : XT} {m : Nat} {lj : Nat → Int64} {Q : Int32 → XT → Prop} (hm : t.1 3 = nI m) (hm60 : m ≤ 60) (L : Nat)
    (cont : ∀ (K' : Nat) (F : Nat → Int32) (li' : Nat → Int32), L ≤ K' → (∀ k, k < m → F k = nI k) → li' 1 = 1 → wpX12_partsMany K' 2 (sA t 7 F) li' lj Q) :
    ∀ (d c K : Nat) (F : Nat → Int32) (li : Nat → Int32), c + d = m → d + L + 1 ≤ K → (∀ k, k < c → F k = nI k) → li 1 = nI c → wpX12_partsMany K 1 (sA t 7 F) li lj Q := by
  intro d
  induction d with
  | zero =>
    intro c K F li hd hK hF e1
    obtain ⟨K, rfl⟩ : ∃ K', K = K' + 1 := ⟨K - 1, by omega⟩
    show wbX12_partsMany_1 (wpX12_partsMany K) K (sA t 7 F) li lj Q
    refine ⟨fun _ => cont K F _ (by omega) (fun k hk => hF k (by omega)) rfl, fun x => absurd ?_ x⟩
    show t.1 3 ≤ li 1
    rw [hm, e1]; exact nI_le (by omega) (by omega)
  | succ d ih =>
    intro c K F li hd hK hF e1
    obtain ⟨K, rfl⟩ : ∃ K', K = K' + 1 := ⟨K - 1, by omega⟩
    have cc : (nI c).toNatClampNeg = c := nI_clamp (by omega)
    show wbX12_partsMany_1 (wpX12_partsMany K) K (sA t 7 F) li lj Q
    unfold wbX12_partsMany_1
    rw [e1]
    refine ⟨fun x => absurd (show t.1 3 ≤ nI c from x) (by rw [hm]; exact nI_ge (by omega) (by omega)), fun _ => ⟨vp_in_nI (by omega) (by decide), fun t2 e2 v3 e3 => ?_⟩⟩
    have e2' : t2 = sA t 7 (upd F c (nI c)) := by
      rw [e2]
      show sA (sA t 7 F) 7 (upd F (nI c).toNatClampNeg (nI c)) = _
      rw [hm_sAA, cc]
    rw [e2']
    refine ih (c + 1) K _ (uI li 1 v3) (by omega) (by omega) (fun k hk => ?_) (e3.trans (hs_inc c))
    show (if k = c then nI c else F k) = nI k
    by_cases x : k = c
    · rw [if_pos x, x]
    · rw [if_neg x]; exact hF k (by omega)
theorem hmx_parts {t : XT} {L0 : Nat → Int32} {m K : Nat} {p : Nat → Prop} {Q : Int32 → XT → Prop} (hM : hmE t L0 m) (hL0 : hnL L0 m) (hp : ∀ k, k < m → (p k ↔ hm_gone t k = 0)) (hK : 30000000 ≤ K) (hQ : ∀ F, Q (nI (hst_n (hzM L0 m p) m)) (sA t 7 F)) : wqX12_partsMany K t Q := by
  have hm := hM.1
  have hm60 := hL0.1
  obtain ⟨A, hA⟩ : ∃ A, A = 60 * m + 1 := ⟨_, rfl⟩
  obtain ⟨L, hL⟩ : ∃ L, L = 8000 * A + 300 := ⟨_, rfl⟩
  have hK : L + 100 ≤ K := by omega
  obtain ⟨K, rfl⟩ : ∃ K', K = K' + 1 := ⟨K - 1, by omega⟩
  have g := hmx_parts_init (lj := fun _ => 0) (Q := Q) hm hm60 L (fun K' F li' h1 h2 h3 => by
    have hF : hq_from m F := fun k hk => ⟨k, by omega, h2 k hk⟩
    exact hmx_parts_loop hM hL0 hp hQ A K' F li' (by omega) hF (fun k hk => ⟨k, Nat.le_refl k, h2 k hk, fun _ => hzR_0⟩) (fun z => absurd (h3.symm.trans z) (by decide)) (Or.inr (by have := hq_mu_le hF; omega))) m 0 K (t.2.2.1 7) (uI (fun _ => 0) 1 0) (by omega) (by omega) (fun k hk => absurd hk (by omega)) rfl
  rw [hm_sA0] at g
  exact g
theorem hmx_count6 {K : Nat} {t : XT} {Q : Int32 → XT → Prop} (h : wqX12_partsMany K t (fun r u => Q r u)) : wqX12_count (K + 1) t 6 Q :=
  ⟨fun e => absurd (show (6 : Int32).toInt < 0 ∨ 9 < (6 : Int32).toInt from e) (by decide), fun e => absurd (show (6 : Int32) = 0 from e) (by decide), fun e => absurd (show (6 : Int32) = 1 from e) (by decide), fun e => absurd (show (6 : Int32) = 2 from e) (by decide), fun e => absurd (show (6 : Int32) = 3 from e) (by decide), fun e => absurd (show (6 : Int32) = 4 from e) (by decide), fun e => absurd (show (6 : Int32) = 5 from e) (by decide), fun _ => h, fun e => absurd (show (6 : Int32) = 7 from e) (by decide), fun e => absurd (show (6 : Int32) = 8 from e) (by decide), fun e => absurd (show (6 : Int32) = 9 from e) (by decide)⟩
theorem hpx_count6 {K : Nat} {t : XT} {Q : Int32 → XT → Prop} (h : wqX9_partsOf K t (t.2.1 0) (fun r u => Q r u)) : wqX11_count (K + 1) t 6 Q :=
  ⟨fun e => absurd (show (6 : Int32).toInt < 0 ∨ 9 < (6 : Int32).toInt from e) (by decide), fun e => absurd (show (6 : Int32) = 0 from e) (by decide), fun e => absurd (show (6 : Int32) = 1 from e) (by decide), fun e => absurd (show (6 : Int32) = 2 from e) (by decide), fun e => absurd (show (6 : Int32) = 3 from e) (by decide), fun e => absurd (show (6 : Int32) = 4 from e) (by decide), fun e => absurd (show (6 : Int32) = 5 from e) (by decide), fun _ => h, fun e => absurd (show (6 : Int32) = 7 from e) (by decide), fun e => absurd (show (6 : Int32) = 8 from e) (by decide), fun e => absurd (show (6 : Int32) = 9 from e) (by decide)⟩
theorem hac_count (n : Nat) (tx tm : XT) (p1 : Int32) (hJ : hAl (n + 1) tx tm) : ∃ k, wqX11_count k tx p1 (fun r1 tx' => ∃ k', wqX12_count k' tm p1 (fun r2 tm' => r1 = r2 ∧ hAl n tx' tm')) := by
  by_cases n6 : p1 = 6
  · subst n6
    obtain ⟨_, c, L, hL, hE, hM, hP, _, _⟩ := id hJ
    have hc := hL.1
    obtain ⟨KA, hKA⟩ : ∃ KA, KA = 1000 := ⟨_, rfl⟩
    obtain ⟨KB, hKB⟩ : ∃ KB, KB = 30000000 := ⟨_, rfl⟩
    have bt : ∀ k, hb (tx.2.1 0) k = true ↔ (k < c ∧ hm_gone tm k = 0) := fun k => (hP.2.2.1 k).trans ⟨fun w => ⟨w.1, Classical.byContradiction w.2⟩, fun w => ⟨w.1, fun z => z w.2⟩⟩
    exact hfa_count (A := KA + 1) (B := KB + 1) hJ (hpx_count6 (hpx_parts hE hc bt (by omega) (hmx_count6 (hmx_parts hM hL (fun _ _ => Iff.rfl) (by omega) (fun _ => rfl)))))
  · exact hac_count6 n tx tm p1 n6 hJ
