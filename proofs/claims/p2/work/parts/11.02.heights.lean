/-! ===== the reference, without the machine: laysHeights ends where some function falls along every step ===== -/
def hm_sum (g : Nat → Nat) : Nat → Nat
  | 0 => 0
  | n + 1 => hm_sum g n + g n
theorem hm_sum_le {g g' : Nat → Nat} : ∀ n : Nat, (∀ j, j < n → g' j ≤ g j) → hm_sum g' n ≤ hm_sum g n := by
  intro n
  induction n with
  | zero => intro _; exact Nat.le_refl _
  | succ n ih =>
    intro h
    have a := ih (fun j hj => h j (by omega))
    have b := h n (by omega)
    show hm_sum g' n + g' n ≤ hm_sum g n + g n
    omega
theorem hm_sum_lt {g g' : Nat → Nat} : ∀ (n k : Nat), k < n → g' k < g k → (∀ j, j < n → g' j ≤ g j) → hm_sum g' n < hm_sum g n := by
  intro n
  induction n with
  | zero => intro k hk; exact absurd hk (by omega)
  | succ n ih =>
    intro k hk hlt h
    have b := h n (by omega)
    show hm_sum g' n + g' n < hm_sum g n + g n
    by_cases e : k = n
    · subst e
      have a := hm_sum_le k (fun j hj => h j (by omega))
      omega
    · have a := ih k (by omega) hlt (fun j hj => h j (by omega))
      omega
def hm_step (t : XT) (k o : Nat) : Prop := (hm_faceT t o k ∧ hm_par t k ≠ nI o) ∨ (hm_faceT t k o ∧ hm_par t k = nI o)
def hm_falls (t : XT) (m : Nat) (ρ : Nat → Nat) : Prop := (∀ k, k < m → ρ k < 1000000) ∧ ∀ k o, k < m → o < m → hm_step t k o → ρ o < ρ k
def hm_okh (m : Nat) (ρ : Nat → Nat) (f : Nat → Int32) : Prop := ∀ k, k < m → ∃ a, f k = nI a ∧ a ≤ ρ k
def hm_mu (m : Nat) (ρ : Nat → Nat) (f : Nat → Int32) : Nat := hm_sum (fun k => ρ k - (f k).toNatClampNeg) m
theorem hm_upd_at (f : Nat → Int32) (k : Nat) (v : Int32) (j : Nat) : upd f k v j = if j = k then v else f j := rfl
theorem hm_sAA (t : XT) (k : Nat) (f g : Nat → Int32) : sA (sA t k f) k g = sA t k g := by
  unfold sA uI
  refine Prod.ext rfl (Prod.ext rfl (Prod.ext ?_ rfl))
  funext j
  show cond (Nat.beq j k) g (cond (Nat.beq j k) f (t.2.2.1 j)) = cond (Nat.beq j k) g (t.2.2.1 j)
  cases Nat.beq j k <;> rfl
theorem hm_raise {m k o a b : Nat} {ρ : Nat → Nat} {f : Nat → Int32} (hρ : ∀ k, k < m → ρ k < 1000000) (hf : hm_okh m ρ f) (hk : k < m) (hb : f k = nI b) (hab : b < a) (ha : a ≤ ρ k) : hm_okh m ρ (upd f k (nI a)) ∧ hm_mu m ρ (upd f k (nI a)) < hm_mu m ρ f := by
  constructor
  · intro j hj
    rw [hm_upd_at]
    by_cases e : j = k
    · rw [if_pos e, e]; exact ⟨a, rfl, ha⟩
    · rw [if_neg e]; exact hf j hj
  · have big := hρ k hk
    refine hm_sum_lt m k hk ?_ (fun j hj => ?_)
    · show ρ k - (upd f k (nI a) k).toNatClampNeg < ρ k - (f k).toNatClampNeg
      rw [hm_upd_at, if_pos rfl, hb, nI_clamp (by omega), nI_clamp (by omega)]
      omega
    · show ρ j - (upd f k (nI a) j).toNatClampNeg ≤ ρ j - (f j).toNatClampNeg
      rw [hm_upd_at]
      by_cases e : j = k
      · rw [if_pos e, e, hb, nI_clamp (by omega), nI_clamp (by omega)]; omega
      · rw [if_neg e]; exact Nat.le_refl _
theorem hm_heights_in {t : XT} {m k : Nat} {ρ : Nat → Nat} {lj : Nat → Int64} {Q : XT → Prop} (hm : t.1 3 = nI m) (hm60 : m ≤ 60) (hρ : hm_falls t m ρ) (hk : k < m) (L μ0 : Nat)
    (cont : ∀ (K' : Nat) (li' : Nat → Int32) (f' : Nat → Int32), L ≤ K' → hm_okh m ρ f' → (li' 1 = 0 ∨ hm_mu m ρ f' < μ0) → hm_mu m ρ f' ≤ μ0 → li' 2 = nI (k + 1) → wpX12_laysHeights K' 3 (sA t 6 f') li' lj Q) :
    ∀ (n o K : Nat) (f : Nat → Int32) (li : Nat → Int32), o + n = m → 7 * n + L + 10 ≤ K → hm_okh m ρ f → (li 1 = 0 ∨ hm_mu m ρ f < μ0) → hm_mu m ρ f ≤ μ0 → li 2 = nI k → li 3 = nI o → wpX12_laysHeights K 4 (sA t 6 f) li lj Q := by
  intro n
  induction n with
  | zero =>
    intro o K f li hn hK hf h1 hμ e2 e3
    obtain ⟨K, rfl⟩ : ∃ K', K = K' + 1 := ⟨K - 1, by omega⟩
    show wbX12_laysHeights_4 (wpX12_laysHeights K) K (sA t 6 f) li lj Q
    refine ⟨fun _ v7 f7 => ?_, fun c1 => absurd (show t.1 3 ≤ li 3 from ?_) c1⟩
    · exact cont K (uI li 2 v7) f (by omega) hf h1 hμ (f7.trans ((congrArg (· + Int32.ofInt 1) e2).trans (hs_inc k)))
    · rw [hm, e3]; exact nI_le (by omega) (by omega)
  | succ n ih =>
    intro o K f li hn hK hf h1 hμ e2 e3
    obtain ⟨K, rfl⟩ : ∃ K', K = K' + 7 := ⟨K - 7, by omega⟩
    have nx : ∀ (K2 : Nat) (f' : Nat → Int32) (l2 : Nat → Int32), K + 1 ≤ K2 → hm_okh m ρ f' → (l2 1 = 0 ∨ hm_mu m ρ f' < μ0) → hm_mu m ρ f' ≤ μ0 → l2 2 = nI k → l2 3 = nI o → wpX12_laysHeights K2 10 (sA t 6 f') l2 lj Q := by
      intro K2 f' l2 hK2 hf' g1 gμ g2 g3
      obtain ⟨K2, rfl⟩ : ∃ K', K2 = K' + 1 := ⟨K2 - 1, by omega⟩
      show wbX12_laysHeights_10 (wpX12_laysHeights K2) K2 (sA t 6 f') l2 lj Q
      intro v f25
      exact ih (o + 1) K2 f' (uI l2 3 v) (by omega) (by omega) hf' g1 gμ g2 (f25.trans ((congrArg (· + Int32.ofInt 1) g3).trans (hs_inc o)))
    have b9 : ∀ (K2 : Nat) (l2 : Nat → Int32), K + 2 ≤ K2 → hm_step t k o → (l2 1 = 0 ∨ hm_mu m ρ f < μ0) → l2 2 = nI k → l2 3 = nI o → wpX12_laysHeights K2 9 (sA t 6 f) l2 lj Q := by
      intro K2 l2 hK2 st g1 g2 g3
      obtain ⟨K2, rfl⟩ : ∃ K', K2 = K' + 1 := ⟨K2 - 1, by omega⟩
      obtain ⟨a, ea, ha⟩ := hf k hk
      obtain ⟨b, eb, hb⟩ := hf o (by omega)
      have fall := hρ.2 k o hk (by omega) st
      have big := hρ.1 k hk
      show wbX12_laysHeights_9 (wpX12_laysHeights K2) K2 (sA t 6 f) l2 lj Q
      unfold wbX12_laysHeights_9
      rw [g2, g3]
      refine ⟨vp_in_nI (by omega) (by decide), fun v18 f18 => ⟨vp_in_nI (by omega) (by decide), fun v19 f19 v20 f20 => ?_⟩⟩
      have f18 : v18 = nI a := f18.trans ((congrArg f (nI_clamp (by omega))).trans ea)
      have f19 : v19 = nI b := f19.trans ((congrArg f (nI_clamp (by omega))).trans eb)
      have f20 : v20 = nI (b + 1) := by rw [f20, f19]; exact nI_1 b
      refine ⟨fun c => ?_, fun c => ⟨vp_in_nI (by omega) (by decide), fun v22 f22 v23 f23 => ⟨vp_in_nI (by omega) (by decide), fun t24 f24 => ?_⟩⟩⟩
      · exact nx K2 f l2 (by omega) hf g1 hμ g2 g3
      · have f22 : v22 = nI b := f22.trans ((congrArg f (nI_clamp (by omega))).trans eb)
        have f23 : v23 = nI (b + 1) := by rw [f23, f22]; exact nI_1 b
        have lt : a < b + 1 := by
          rw [f20, f18] at c
          exact Nat.lt_of_not_le (fun q => c (nI_le q (by omega)))
        have rs := hm_raise (o := o) hρ.1 hf hk ea lt (by omega)
        have e24 : t24 = sA t 6 (upd f k (nI (b + 1))) := by
          rw [f24, hm_sAA, nI_clamp (by omega), f23]; rfl
        rw [e24]
        exact nx K2 _ _ (by omega) rs.1 (Or.inr (by omega)) (by omega) g2 g3
    have b8 : ∀ (K2 : Nat) (l2 : Nat → Int32), K + 3 ≤ K2 → (l2 4 ≠ 0 ∨ l2 100 ≠ 0 → hm_step t k o) → (l2 1 = 0 ∨ hm_mu m ρ f < μ0) → l2 2 = nI k → l2 3 = nI o → wpX12_laysHeights K2 8 (sA t 6 f) l2 lj Q := by
      intro K2 l2 hK2 st g1 g2 g3
      obtain ⟨K2, rfl⟩ : ∃ K', K2 = K' + 1 := ⟨K2 - 1, by omega⟩
      show wbX12_laysHeights_8 (wpX12_laysHeights K2) K2 (sA t 6 f) l2 lj Q
      refine ⟨fun c => b9 K2 _ (by omega) (st (Or.inl c)) g1 g2 g3, fun c => ⟨fun d => nx K2 f _ (by omega) hf g1 hμ g2 g3, fun d => b9 K2 _ (by omega) (st (Or.inr d)) g1 g2 g3⟩⟩
    have b6 : ∀ (K2 : Nat) (l2 : Nat → Int32), K + 5 ≤ K2 → (l2 100 ≠ 0 → hm_step t k o) → (l2 1 = 0 ∨ hm_mu m ρ f < μ0) → l2 2 = nI k → l2 3 = nI o → wpX12_laysHeights K2 6 (sA t 6 f) l2 lj Q := by
      intro K2 l2 hK2 st g1 g2 g3
      obtain ⟨K2, rfl⟩ : ∃ K', K2 = K' + 2 := ⟨K2 - 2, by omega⟩
      have b7 : wpX12_laysHeights (K2 + 1) 7 (sA t 6 f) (uI l2 4 (l2 100)) lj Q := by
        show wbX12_laysHeights_7 (wpX12_laysHeights K2) K2 (sA t 6 f) (uI l2 4 (l2 100)) lj Q
        exact b8 K2 _ (by omega) (fun q => q.elim (fun q => st q) (fun q => absurd rfl q)) g1 g2 g3
      show wbX12_laysHeights_6 (wpX12_laysHeights (K2 + 1)) (K2 + 1) (sA t 6 f) l2 lj Q
      unfold wbX12_laysHeights_6
      rw [g2, g3]
      refine hm_isFaceThere (by omega) (by omega) (by omega) (fun y => ⟨fun z => absurd z (by decide), fun _ => ⟨vp_in_nI (by omega) (by decide), fun v14 f14 => ?_⟩⟩) (fun y => ⟨fun _ => b7, fun z => absurd rfl z⟩)
      have f14 : v14 = hm_par t k := f14.trans (congrArg (t.2.2.1 4) (nI_clamp (by omega)))
      refine ⟨fun c => b7, fun c => ?_⟩
      exact b8 (K2 + 1) _ (by omega) (fun _ => Or.inr ⟨y, f14.symm.trans c⟩) g1 g2 g3
    have b5 : wpX12_laysHeights (K + 6) 5 (sA t 6 f) li lj Q := by
      show wbX12_laysHeights_5 (wpX12_laysHeights (K + 5)) (K + 5) (sA t 6 f) li lj Q
      exact b6 (K + 5) _ (by omega) (fun q => absurd rfl q) h1 e2 e3
    show wbX12_laysHeights_4 (wpX12_laysHeights (K + 6)) (K + 6) (sA t 6 f) li lj Q
    unfold wbX12_laysHeights_4
    refine ⟨fun c1 => absurd (show t.1 3 ≤ li 3 from c1) ?_, fun _ => ?_⟩
    · rw [hm, e3]; exact nI_ge (by omega) (by omega)
    · rw [e2, e3]
      refine hm_isFaceThere (by omega) (by omega) (by omega) (fun y => ⟨fun z => absurd z (by decide), fun _ => ⟨vp_in_nI (by omega) (by decide), fun v10 f10 => ?_⟩⟩) (fun y => ⟨fun _ => b5, fun z => absurd rfl z⟩)
      have f10 : v10 = hm_par t k := f10.trans (congrArg (t.2.2.1 4) (nI_clamp (by omega)))
      refine ⟨fun c => b5, fun c => ?_⟩
      exact b6 (K + 6) _ (by omega) (fun _ => Or.inl ⟨y, fun q => c (f10.trans q)⟩) h1 e2 e3
