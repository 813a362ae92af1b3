/-! ===== the reference, without the machine: laysHeights, whole ===== -/
theorem hm_heights_scan {t : XT} {m : Nat} {ρ : Nat → Nat} {lj : Nat → Int64} {Q : XT → Prop} (hm : t.1 3 = nI m) (hm60 : m ≤ 60) (hρ : hm_falls t m ρ) (L μ0 : Nat)
    (cont : ∀ (K' : Nat) (li' : Nat → Int32) (f' : Nat → Int32), L ≤ K' → hm_okh m ρ f' → (li' 1 = 0 ∨ hm_mu m ρ f' < μ0) → wpX12_laysHeights K' 2 (sA t 6 f') li' lj Q) :
    ∀ (n k K : Nat) (f : Nat → Int32) (li : Nat → Int32), k + n = m → n * (7 * m + 12) + L + 2 ≤ K → hm_okh m ρ f → (li 1 = 0 ∨ hm_mu m ρ f < μ0) → hm_mu m ρ f ≤ μ0 → li 2 = nI k → wpX12_laysHeights K 3 (sA t 6 f) li lj Q := by
  intro n
  induction n with
  | zero =>
    intro k K f li hn hK hf h1 hμ e2
    obtain ⟨K, rfl⟩ : ∃ K', K = K' + 1 := ⟨K - 1, by omega⟩
    show wbX12_laysHeights_3 (wpX12_laysHeights K) K (sA t 6 f) li lj Q
    refine ⟨fun _ => cont K li f (by omega) hf h1, fun c1 => absurd (show t.1 3 ≤ li 2 from ?_) c1⟩
    rw [hm, e2]; exact nI_le (by omega) (by omega)
  | succ n ih =>
    intro k K f li hn hK hf h1 hμ e2
    have hK : n * (7 * m + 12) + (7 * m + 12) + L + 2 ≤ K := by rw [Nat.succ_mul] at hK; exact hK
    obtain ⟨K, rfl⟩ : ∃ K', K = K' + 1 := ⟨K - 1, by omega⟩
    show wbX12_laysHeights_3 (wpX12_laysHeights K) K (sA t 6 f) li lj Q
    refine ⟨fun c1 => absurd (show t.1 3 ≤ li 2 from c1) ?_, fun _ => ?_⟩
    · rw [hm, e2]; exact nI_ge (by omega) (by omega)
    · refine hm_heights_in hm hm60 hρ (k := k) (by omega) (n * (7 * m + 12) + L + 2) μ0 ?_ m 0 K f (uI li 3 0) (by omega) (by omega) hf h1 hμ e2 rfl
      intro K' li' f' hK' hf' g1 gμ g2
      exact ih (k + 1) K' f' li' (by omega) hK' hf' g1 gμ g2
theorem hm_heights_loop {t : XT} {m : Nat} {ρ : Nat → Nat} {lj : Nat → Int64} {Q : XT → Prop} (hm : t.1 3 = nI m) (hm60 : m ≤ 60) (hρ : hm_falls t m ρ) (hQ : ∀ f, hm_okh m ρ f → Q (sA t 6 f)) :
    ∀ (M K : Nat) (f : Nat → Int32) (li : Nat → Int32), (li 1 = 0 ∨ hm_mu m ρ f ≤ M) → (M + 1) * (m * (7 * m + 12) + 20) + 5 ≤ K → hm_okh m ρ f → wpX12_laysHeights K 2 (sA t 6 f) li lj Q := by
  have fin : ∀ (K : Nat) (f : Nat → Int32) (li : Nat → Int32), 1 ≤ K → hm_okh m ρ f → li 1 = 0 → wpX12_laysHeights K 2 (sA t 6 f) li lj Q := by
    intro K f li hK hf e
    obtain ⟨K, rfl⟩ : ∃ K', K = K' + 1 := ⟨K - 1, by omega⟩
    exact ⟨fun _ => hQ f hf, fun c => absurd e c⟩
  intro M
  induction M with
  | zero =>
    intro K f li h1 hK hf
    obtain ⟨K, rfl⟩ : ∃ K', K = K' + 1 := ⟨K - 1, by omega⟩
    show wbX12_laysHeights_2 (wpX12_laysHeights K) K (sA t 6 f) li lj Q
    refine ⟨fun _ => hQ f hf, fun c => ?_⟩
    have h1 : hm_mu m ρ f ≤ 0 := h1.elim (fun q => absurd q c) id
    refine hm_heights_scan hm hm60 hρ 1 (hm_mu m ρ f) ?_ m 0 K f _ (by omega) (by omega) hf (Or.inl rfl) (Nat.le_refl _) rfl
    intro K' li' f' hK' hf' g
    exact fin K' f' li' hK' hf' (g.elim id (fun q => absurd q (by omega)))
  | succ M ih =>
    intro K f li h1 hK hf
    have hK : (M + 1) * (m * (7 * m + 12) + 20) + (m * (7 * m + 12) + 20) + 5 ≤ K := by rw [Nat.succ_mul] at hK; exact hK
    obtain ⟨K, rfl⟩ : ∃ K', K = K' + 1 := ⟨K - 1, by omega⟩
    show wbX12_laysHeights_2 (wpX12_laysHeights K) K (sA t 6 f) li lj Q
    refine ⟨fun _ => hQ f hf, fun c => ?_⟩
    have h1 : hm_mu m ρ f ≤ M + 1 := h1.elim (fun q => absurd q c) id
    refine hm_heights_scan hm hm60 hρ ((M + 1) * (m * (7 * m + 12) + 20) + 5) (hm_mu m ρ f) ?_ m 0 K f _ (by omega) (by omega) hf (Or.inl rfl) (Nat.le_refl _) rfl
    intro K' li' f' hK' hf' g
    exact ih K' f' li' (g.elim Or.inl (fun q => Or.inr (by omega))) hK' hf'
theorem hm_heights_zero {t : XT} {m : Nat} {ρ : Nat → Nat} {lj : Nat → Int64} {Q : XT → Prop} (hm : t.1 3 = nI m) (hm60 : m ≤ 60) (L : Nat)
    (cont : ∀ (K' : Nat) (li' : Nat → Int32) (f' : Nat → Int32), L ≤ K' → hm_okh m ρ f' → wpX12_laysHeights K' 2 (sA t 6 f') li' lj Q) :
    ∀ (n c K : Nat) (f : Nat → Int32) (li : Nat → Int32), c + n = m → n + L + 1 ≤ K → (∀ k, k < c → f k = 0) → li 1 = nI c → wpX12_laysHeights K 1 (sA t 6 f) li lj Q := by
  intro n
  induction n with
  | zero =>
    intro c K f li hn hK hf e1
    obtain ⟨K, rfl⟩ : ∃ K', K = K' + 1 := ⟨K - 1, by omega⟩
    show wbX12_laysHeights_1 (wpX12_laysHeights K) K (sA t 6 f) li lj Q
    refine ⟨fun _ => cont K _ f (by omega) (fun k hk => ⟨0, (hf k (by omega)).trans rfl, Nat.zero_le _⟩), fun c1 => absurd (show t.1 3 ≤ li 1 from ?_) c1⟩
    rw [hm, e1]; exact nI_le (by omega) (by omega)
  | succ n ih =>
    intro c K f li hn hK hf e1
    obtain ⟨K, rfl⟩ : ∃ K', K = K' + 1 := ⟨K - 1, by omega⟩
    show wbX12_laysHeights_1 (wpX12_laysHeights K) K (sA t 6 f) li lj Q
    unfold wbX12_laysHeights_1
    rw [e1]
    refine ⟨fun c1 => absurd (show t.1 3 ≤ nI c from c1) ?_, fun _ => ⟨vp_in_nI (by omega) (by decide), fun t2 f2 v3 f3 => ?_⟩⟩
    · rw [hm]; exact nI_ge (by omega) (by omega)
    · have e2 : t2 = sA t 6 (upd f c 0) := by
        rw [f2, hm_sAA, nI_clamp (by omega)]; rfl
      rw [e2]
      refine ih (c + 1) K _ _ (by omega) (by omega) (fun k hk => ?_) (f3.trans (hs_inc c))
      rw [hm_upd_at]
      by_cases e : k = c
      · rw [if_pos e]
      · rw [if_neg e]; exact hf k (by omega)
theorem hm_sA0 (t : XT) (k : Nat) : sA t k (t.2.2.1 k) = t := by
  unfold sA uI
  refine Prod.ext rfl (Prod.ext rfl (Prod.ext ?_ rfl))
  funext j
  show cond (Nat.beq j k) (t.2.2.1 k) (t.2.2.1 j) = t.2.2.1 j
  cases h : Nat.beq j k with
  | true => rw [Nat.eq_of_beq_eq_true h]; rfl
  | false => rfl
theorem hm_mu_le {m : Nat} {ρ : Nat → Nat} {f : Nat → Int32} (hm60 : m ≤ 60) (hρ : ∀ k, k < m → ρ k < 1000000) : hm_mu m ρ f ≤ 60000000 := by
  have key : ∀ n, n ≤ m → hm_sum (fun k => ρ k - (f k).toNatClampNeg) n ≤ n * 1000000 := by
    intro n
    induction n with
    | zero => intro _; exact Nat.le_refl _
    | succ n ih =>
      intro hn
      have a := ih (by omega)
      have b := hρ n (by omega)
      show hm_sum (fun k => ρ k - (f k).toNatClampNeg) n + (ρ n - (f n).toNatClampNeg) ≤ (n + 1) * 1000000
      omega
  have a := key m (Nat.le_refl _)
  unfold hm_mu
  omega
theorem hm_laysHeights {t : XT} {m K : Nat} {ρ : Nat → Nat} {Q : XT → Prop} (hm : t.1 3 = nI m) (hm60 : m ≤ 60) (hρ : hm_falls t m ρ) (hK : 10000000000000 ≤ K) (hQ : ∀ f, hm_okh m ρ f → Q (sA t 6 f)) : wqX12_laysHeights K t Q := by
  obtain ⟨K, rfl⟩ : ∃ K', K = K' + 1 := ⟨K - 1, by omega⟩
  show wbX12_laysHeights_0 (wpX12_laysHeights K) K t (fun _ => 0) (fun _ => 0) Q
  have c1 : m * (7 * m + 12) ≤ 60 * (7 * 60 + 12) := Nat.mul_le_mul hm60 (by omega)
  obtain ⟨M, hM⟩ : ∃ M, M = 60000000 := ⟨_, rfl⟩
  have c2 : (M + 1) * (m * (7 * m + 12) + 20) ≤ (60000000 + 1) * (60 * (7 * 60 + 12) + 20) := Nat.mul_le_mul (by omega) (by omega)
  have g := hm_heights_zero (t := t) (ρ := ρ) (lj := fun _ => 0) (Q := Q) hm hm60 ((M + 1) * (m * (7 * m + 12) + 20) + 5) (fun K' li' f' hK' hf' => hm_heights_loop hm hm60 hρ hQ M K' f' li' (Or.inr (hM ▸ hm_mu_le hm60 hρ.1)) hK' hf') m 0 K (t.2.2.1 6) (uI (fun _ => 0) 1 0) (by omega) (by omega) (fun k hk => absurd hk (by omega)) rfl
  rw [hm_sA0] at g
  exact g
