/-! ===== HEIGHTS, what they are; the reference's, exactly ===== -/
def hHt (st : Nat → Nat → Prop) (c : Nat) (h : Nat → Nat) : Prop := (∀ k o, k < c → o < c → st k o → h o < h k) ∧ ∀ k, k < c → 0 < h k → ∃ o, o < c ∧ st k o ∧ h k ≤ h o + 1
theorem hHt_le {st : Nat → Nat → Prop} {c : Nat} {h g : Nat → Nat} (a : hHt st c h) (b : hHt st c g) : ∀ n k, k < c → h k = n → n ≤ g k := by
  intro n
  induction n with
  | zero => intro k _ _; exact Nat.zero_le _
  | succ n ih =>
    intro k hk e
    obtain ⟨o, ho, so, le⟩ := a.2 k hk (by omega)
    have l1 := a.1 k o hk ho so
    have l2 := ih o ho (by omega)
    have l3 := b.1 k o hk ho so
    omega
theorem hHt_uni {st : Nat → Nat → Prop} {c : Nat} {h g : Nat → Nat} (a : hHt st c h) (b : hHt st c g) {k : Nat} (hk : k < c) : h k = g k :=
  Nat.le_antisymm (hHt_le a b (h k) k hk rfl) (hHt_le b a (g k) k hk rfl)
theorem hHt_ext {st st' : Nat → Nat → Prop} {c : Nat} {h : Nat → Nat} (a : hHt st c h) (e : ∀ k o, k < c → o < c → (st' k o ↔ st k o)) : hHt st' c h :=
  ⟨fun k o hk ho s => a.1 k o hk ho ((e k o hk ho).mp s), fun k hk p => by
    obtain ⟨o, ho, so, le⟩ := a.2 k hk p
    exact ⟨o, ho, (e k o hk ho).mpr so, le⟩⟩
def hoV (f : Nat → Int32) (k : Nat) : Nat := (f k).toNatClampNeg
def hoh (t : XT) (m : Nat) (ρ : Nat → Nat) (f : Nat → Int32) : Prop := hm_okh m ρ f ∧ ∀ k, k < m → 0 < hoV f k → ∃ o, o < m ∧ hm_step t k o ∧ hoV f k ≤ hoV f o + 1
def hoc (t : XT) (f : Nat → Int32) (k o : Nat) : Prop := hm_step t k o → hoV f o + 1 ≤ hoV f k
def hod (k o k' o' : Nat) : Prop := k' < k ∨ (k' = k ∧ o' < o)
def hof (t : XT) (m : Nat) (ρ : Nat → Nat) (f0 f : Nat → Int32) (i : Int32) (dn : Nat → Nat → Prop) : Prop := (i = 0 ∧ f = f0 ∧ ∀ k o, k < m → o < m → dn k o → hoc t f0 k o) ∨ (i ≠ 0 ∧ hm_mu m ρ f < hm_mu m ρ f0)
theorem hof_le {t : XT} {m : Nat} {ρ : Nat → Nat} {f0 f : Nat → Int32} {i : Int32} {dn : Nat → Nat → Prop} (h : hof t m ρ f0 f i dn) : hm_mu m ρ f ≤ hm_mu m ρ f0 := by
  rcases h with ⟨_, e, _⟩ | ⟨_, l⟩
  · rw [e]; exact Nat.le_refl _
  · omega
theorem hof_next {t : XT} {m k o : Nat} {ρ : Nat → Nat} {f0 f : Nat → Int32} {i : Int32} (h : hof t m ρ f0 f i (hod k o)) (c : hoc t f k o) : hof t m ρ f0 f i (hod k (o + 1)) := by
  rcases h with ⟨a, e, l⟩ | r
  · refine Or.inl ⟨a, e, fun k' o' hk ho d => ?_⟩
    by_cases q : hod k o k' o'
    · exact l k' o' hk ho q
    · unfold hod at q d
      have ek : k' = k := by omega
      have eo : o' = o := by omega
      rw [ek, eo, ← e]; exact c
  · exact Or.inr r
theorem hof_row {t : XT} {m k : Nat} {ρ : Nat → Nat} {f0 f : Nat → Int32} {i : Int32} (h : hof t m ρ f0 f i (hod k m)) : hof t m ρ f0 f i (hod (k + 1) 0) := by
  rcases h with ⟨a, e, l⟩ | r
  · refine Or.inl ⟨a, e, fun k' o' hk ho d => l k' o' hk ho ?_⟩
    unfold hod at d ⊢
    omega
  · exact Or.inr r
theorem hoh_raise {t : XT} {m k o a b : Nat} {ρ : Nat → Nat} {f : Nat → Int32} (hρ : hm_falls t m ρ) (hf : hoh t m ρ f) (hk : k < m) (ho : o < m) (st : hm_step t k o) (ea : f k = nI a) (ha : a ≤ ρ k) (eb : f o = nI b) (hb : b ≤ ρ o) (lt : a < b + 1) : hoh t m ρ (upd f k (nI (b + 1))) ∧ hm_mu m ρ (upd f k (nI (b + 1))) < hm_mu m ρ f := by
  have fall := hρ.2 k o hk ho st
  have big := hρ.1 k hk
  have bigo := hρ.1 o ho
  have vb : hoV f o = b := (congrArg Int32.toNatClampNeg eb).trans (nI_clamp (by omega))
  have va : hoV f k = a := (congrArg Int32.toNatClampNeg ea).trans (nI_clamp (by omega))
  have rs := hm_raise (o := o) hρ.1 hf.1 hk ea lt (by omega)
  have val : ∀ j, hoV (upd f k (nI (b + 1))) j = if j = k then b + 1 else hoV f j := by
    intro j
    unfold hoV
    rw [hm_upd_at]
    by_cases e : j = k
    · rw [if_pos e, if_pos e, nI_clamp (by omega)]
    · rw [if_neg e, if_neg e]
  refine ⟨⟨rs.1, fun j hj pj => ?_⟩, rs.2⟩
  rw [val j] at pj ⊢
  by_cases e : j = k
  · rw [if_pos e]
    refine ⟨o, ho, e ▸ st, ?_⟩
    rw [val o, if_neg (fun z => by rw [z] at fall; omega), vb]
    exact Nat.le_refl _
  · rw [if_neg e] at pj ⊢
    obtain ⟨w, hw, sw, lw⟩ := hf.2 j hj pj
    refine ⟨w, hw, sw, ?_⟩
    rw [val w]
    by_cases z : w = k
    · rw [if_pos z]; rw [z] at lw; omega
    · rw [if_neg z]; exact lw
theorem ho_in {t : XT} {m k : Nat} {ρ : Nat → Nat} {f0 : Nat → Int32} {lj : Nat → Int64} {Q : XT → Prop} (hm : t.1 3 = nI m) (hm60 : m ≤ 60) (hρ : hm_falls t m ρ) (hk : k < m) (L : Nat)
    (cont : ∀ (K' : Nat) (li' : Nat → Int32) (f' : Nat → Int32), L ≤ K' → hoh t m ρ f' → hof t m ρ f0 f' (li' 1) (hod (k + 1) 0) → li' 2 = nI (k + 1) → wpX12_laysHeights K' 3 (sA t 6 f') li' lj Q) :
    ∀ (n o K : Nat) (f : Nat → Int32) (li : Nat → Int32), o + n = m → 7 * n + L + 10 ≤ K → hoh t m ρ f → hof t m ρ f0 f (li 1) (hod k o) → li 2 = nI k → li 3 = nI o → wpX12_laysHeights K 4 (sA t 6 f) li lj Q := by
  intro n
  induction n with
  | zero =>
    intro o K f li hn hK hf h1 e2 e3
    obtain ⟨K, rfl⟩ : ∃ K', K = K' + 1 := ⟨K - 1, by omega⟩
    show wbX12_laysHeights_4 (wpX12_laysHeights K) K (sA t 6 f) li lj Q
    refine ⟨fun _ v7 f7 => ?_, fun c1 => absurd (show t.1 3 ≤ li 3 from ?_) c1⟩
    · exact cont K (uI li 2 v7) f (by omega) hf (hof_row ((show o = m by omega) ▸ h1)) (f7.trans ((congrArg (· + Int32.ofInt 1) e2).trans (hs_inc k)))
    · rw [hm, e3]; exact nI_le (by omega) (by omega)
  | succ n ih =>
    intro o K f li hn hK hf h1 e2 e3
    obtain ⟨K, rfl⟩ : ∃ K', K = K' + 7 := ⟨K - 7, by omega⟩
    have nx : ∀ (K2 : Nat) (f' : Nat → Int32) (l2 : Nat → Int32), K + 1 ≤ K2 → hoh t m ρ f' → hof t m ρ f0 f' (l2 1) (hod k (o + 1)) → l2 2 = nI k → l2 3 = nI o → wpX12_laysHeights K2 10 (sA t 6 f') l2 lj Q := by
      intro K2 f' l2 hK2 hf' g1 g2 g3
      obtain ⟨K2, rfl⟩ : ∃ K', K2 = K' + 1 := ⟨K2 - 1, by omega⟩
      show wbX12_laysHeights_10 (wpX12_laysHeights K2) K2 (sA t 6 f') l2 lj Q
      intro v f25
      exact ih (o + 1) K2 f' (uI l2 3 v) (by omega) (by omega) hf' g1 g2 (f25.trans ((congrArg (· + Int32.ofInt 1) g3).trans (hs_inc o)))
    have b9 : ∀ (K2 : Nat) (l2 : Nat → Int32), K + 2 ≤ K2 → hm_step t k o → hof t m ρ f0 f (l2 1) (hod k o) → l2 2 = nI k → l2 3 = nI o → wpX12_laysHeights K2 9 (sA t 6 f) l2 lj Q := by
      intro K2 l2 hK2 st g1 g2 g3
      obtain ⟨K2, rfl⟩ : ∃ K', K2 = K' + 1 := ⟨K2 - 1, by omega⟩
      obtain ⟨a, ea, ha⟩ := hf.1 k hk
      obtain ⟨b, eb, hb⟩ := hf.1 o (by omega)
      have fall := hρ.2 k o hk (by omega) st
      have big := hρ.1 k hk
      show wbX12_laysHeights_9 (wpX12_laysHeights K2) K2 (sA t 6 f) l2 lj Q
      unfold wbX12_laysHeights_9
      rw [g2, g3]
      refine ⟨vp_in_nI (by omega) (by decide), fun v18 f18 => ⟨vp_in_nI (by omega) (by decide), fun v19 f19 v20 f20 => ?_⟩⟩
      have f18 : v18 = nI a := f18.trans ((congrArg f (nI_clamp (by omega))).trans ea)
      have f19 : v19 = nI b := f19.trans ((congrArg f (nI_clamp (by omega))).trans eb)
      have f20 : v20 = nI (b + 1) := by rw [f20, f19]; exact nI_1 b
      refine ⟨fun c => ?_, fun c => ⟨vp_in_nI (by omega) (by decide), fun v22 f22 v23 f23 => ⟨vp_in_nI (by omega) (by decide), fun t24 f24 => ?_⟩⟩⟩
      · refine nx K2 f l2 (by omega) hf (hof_next g1 (fun _ => ?_)) g2 g3
        have bo := hρ.1 o (by omega)
        have vb : hoV f o = b := (congrArg Int32.toNatClampNeg eb).trans (nI_clamp (by omega))
        have va : hoV f k = a := (congrArg Int32.toNatClampNeg ea).trans (nI_clamp (by omega))
        have c : v20 ≤ v18 := c
        rw [f20, f18] at c
        have := (nI_leI (a := b + 1) (b := a) (by omega) (by omega)).mp c
        omega
      · have f22 : v22 = nI b := f22.trans ((congrArg f (nI_clamp (by omega))).trans eb)
        have f23 : v23 = nI (b + 1) := by rw [f23, f22]; exact nI_1 b
        have lt : a < b + 1 := by
          rw [f20, f18] at c
          exact Nat.lt_of_not_le (fun q => c (nI_le q (by omega)))
        have rs := hoh_raise hρ hf hk (by omega) st ea ha eb hb lt
        have le := hof_le g1
        have e24 : t24 = sA t 6 (upd f k (nI (b + 1))) := by
          rw [f24, hm_sAA, nI_clamp (by omega), f23]; rfl
        rw [e24]
        exact nx K2 _ _ (by omega) rs.1 (Or.inr ⟨(by decide : (1 : Int32) ≠ 0), by omega⟩) g2 g3
    have b8 : ∀ (K2 : Nat) (l2 : Nat → Int32), K + 3 ≤ K2 → (l2 4 ≠ 0 ∨ l2 100 ≠ 0 ↔ hm_step t k o) → hof t m ρ f0 f (l2 1) (hod k o) → l2 2 = nI k → l2 3 = nI o → wpX12_laysHeights K2 8 (sA t 6 f) l2 lj Q := by
      intro K2 l2 hK2 st g1 g2 g3
      obtain ⟨K2, rfl⟩ : ∃ K', K2 = K' + 1 := ⟨K2 - 1, by omega⟩
      show wbX12_laysHeights_8 (wpX12_laysHeights K2) K2 (sA t 6 f) l2 lj Q
      refine ⟨fun c => b9 K2 _ (by omega) (st.mp (Or.inl c)) g1 g2 g3, fun c => ⟨fun d => nx K2 f _ (by omega) hf (hof_next g1 (fun s => absurd (st.mpr s) (fun q => q.elim (fun z => z c) (fun z => z d)))) g2 g3, fun d => b9 K2 _ (by omega) (st.mp (Or.inr d)) g1 g2 g3⟩⟩
    have b6 : ∀ (K2 : Nat) (l2 : Nat → Int32), K + 5 ≤ K2 → (l2 100 ≠ 0 ↔ (hm_faceT t o k ∧ hm_par t k ≠ nI o)) → hof t m ρ f0 f (l2 1) (hod k o) → l2 2 = nI k → l2 3 = nI o → wpX12_laysHeights K2 6 (sA t 6 f) l2 lj Q := by
      intro K2 l2 hK2 st g1 g2 g3
      obtain ⟨K2, rfl⟩ : ∃ K', K2 = K' + 2 := ⟨K2 - 2, by omega⟩
      have b7 : ¬ (hm_faceT t k o ∧ hm_par t k = nI o) → wpX12_laysHeights (K2 + 1) 7 (sA t 6 f) (uI l2 4 (l2 100)) lj Q := by
        intro nu
        show wbX12_laysHeights_7 (wpX12_laysHeights K2) K2 (sA t 6 f) (uI l2 4 (l2 100)) lj Q
        exact b8 K2 _ (by omega) ⟨fun q => q.elim (fun q => Or.inl (st.mp q)) (fun q => absurd rfl q), fun q => q.elim (fun q => Or.inl (st.mpr q)) (fun q => absurd q nu)⟩ g1 g2 g3
      show wbX12_laysHeights_6 (wpX12_laysHeights (K2 + 1)) (K2 + 1) (sA t 6 f) l2 lj Q
      unfold wbX12_laysHeights_6
      rw [g2, g3]
      refine hm_isFaceThere (by omega) (by omega) (by omega) (fun y => ⟨fun z => absurd z (by decide), fun _ => ⟨vp_in_nI (by omega) (by decide), fun v14 f14 => ?_⟩⟩) (fun y => ⟨fun _ => b7 (fun q => y q.1), fun z => absurd rfl z⟩)
      have f14 : v14 = hm_par t k := f14.trans (congrArg (t.2.2.1 4) (nI_clamp (by omega)))
      refine ⟨fun c => b7 (fun q => c (f14.trans q.2)), fun c => ?_⟩
      exact b8 (K2 + 1) _ (by omega) ⟨fun _ => Or.inr ⟨y, f14.symm.trans c⟩, fun _ => Or.inr (by decide : (1 : Int32) ≠ 0)⟩ g1 g2 g3
    have b5 : ¬ (hm_faceT t o k ∧ hm_par t k ≠ nI o) → wpX12_laysHeights (K + 6) 5 (sA t 6 f) li lj Q := by
      intro nd
      show wbX12_laysHeights_5 (wpX12_laysHeights (K + 5)) (K + 5) (sA t 6 f) li lj Q
      exact b6 (K + 5) _ (by omega) ⟨fun q => absurd rfl q, fun q => absurd q nd⟩ h1 e2 e3
    show wbX12_laysHeights_4 (wpX12_laysHeights (K + 6)) (K + 6) (sA t 6 f) li lj Q
    unfold wbX12_laysHeights_4
    refine ⟨fun c1 => absurd (show t.1 3 ≤ li 3 from c1) ?_, fun _ => ?_⟩
    · rw [hm, e3]; exact nI_ge (by omega) (by omega)
    · rw [e2, e3]
      refine hm_isFaceThere (by omega) (by omega) (by omega) (fun y => ⟨fun z => absurd z (by decide), fun _ => ⟨vp_in_nI (by omega) (by decide), fun v10 f10 => ?_⟩⟩) (fun y => ⟨fun _ => b5 (fun q => y q.1), fun z => absurd rfl z⟩)
      have f10 : v10 = hm_par t k := f10.trans (congrArg (t.2.2.1 4) (nI_clamp (by omega)))
      refine ⟨fun c => b5 (fun q => q.2 (f10.symm.trans c)), fun c => ?_⟩
      exact b6 (K + 6) _ (by omega) ⟨fun _ => ⟨y, fun q => c (f10.trans q)⟩, fun _ => (by decide : (1 : Int32) ≠ 0)⟩ h1 e2 e3
theorem ho_scan {t : XT} {m : Nat} {ρ : Nat → Nat} {f0 : Nat → Int32} {lj : Nat → Int64} {Q : XT → Prop} (hm : t.1 3 = nI m) (hm60 : m ≤ 60) (hρ : hm_falls t m ρ) (L : Nat)
    (cont : ∀ (K' : Nat) (li' : Nat → Int32) (f' : Nat → Int32), L ≤ K' → hoh t m ρ f' → hof t m ρ f0 f' (li' 1) (hod m 0) → wpX12_laysHeights K' 2 (sA t 6 f') li' lj Q) :
    ∀ (n k K : Nat) (f : Nat → Int32) (li : Nat → Int32), k + n = m → n * (7 * m + 12) + L + 2 ≤ K → hoh t m ρ f → hof t m ρ f0 f (li 1) (hod k 0) → li 2 = nI k → wpX12_laysHeights K 3 (sA t 6 f) li lj Q := by
  intro n
  induction n with
  | zero =>
    intro k K f li hn hK hf h1 e2
    obtain ⟨K, rfl⟩ : ∃ K', K = K' + 1 := ⟨K - 1, by omega⟩
    show wbX12_laysHeights_3 (wpX12_laysHeights K) K (sA t 6 f) li lj Q
    refine ⟨fun _ => cont K li f (by omega) hf ((show k = m by omega) ▸ h1), fun c1 => absurd (show t.1 3 ≤ li 2 from ?_) c1⟩
    rw [hm, e2]; exact nI_le (by omega) (by omega)
  | succ n ih =>
    intro k K f li hn hK hf h1 e2
    have hK : n * (7 * m + 12) + (7 * m + 12) + L + 2 ≤ K := by rw [Nat.succ_mul] at hK; exact hK
    obtain ⟨K, rfl⟩ : ∃ K', K = K' + 1 := ⟨K - 1, by omega⟩
    show wbX12_laysHeights_3 (wpX12_laysHeights K) K (sA t 6 f) li lj Q
    refine ⟨fun c1 => absurd (show t.1 3 ≤ li 2 from c1) ?_, fun _ => ?_⟩
    · rw [hm, e2]; exact nI_ge (by omega) (by omega)
    · refine ho_in hm hm60 hρ (k := k) (by omega) (n * (7 * m + 12) + L + 2) ?_ m 0 K f (uI li 3 0) (by omega) (by omega) hf h1 e2 rfl
      intro K' li' f' hK' hf' g1 g2
      exact ih (k + 1) K' f' li' (by omega) hK' hf' g1 g2
theorem ho_loop {t : XT} {m : Nat} {ρ : Nat → Nat} {lj : Nat → Int64} {Q : XT → Prop} (hm : t.1 3 = nI m) (hm60 : m ≤ 60) (hρ : hm_falls t m ρ) (hQ : ∀ f, hoh t m ρ f → (∀ k o, k < m → o < m → hoc t f k o) → Q (sA t 6 f)) :
    ∀ (M K : Nat) (f : Nat → Int32) (li : Nat → Int32), (li 1 = 0 → ∀ k o, k < m → o < m → hoc t f k o) → (li 1 = 0 ∨ hm_mu m ρ f ≤ M) → (M + 1) * (m * (7 * m + 12) + 20) + 5 ≤ K → hoh t m ρ f → wpX12_laysHeights K 2 (sA t 6 f) li lj Q := by
  have dn0 : ∀ (f f' : Nat → Int32) (i : Int32), hof t m ρ f f' i (hod m 0) → (i = 0 → ∀ k o, k < m → o < m → hoc t f' k o) ∧ (i = 0 ∨ hm_mu m ρ f' < hm_mu m ρ f) := by
    intro f f' i h
    rcases h with ⟨a, e, l⟩ | ⟨a, l⟩
    · exact ⟨fun _ k o hk ho => by rw [e]; exact l k o hk ho (Or.inl hk), Or.inl a⟩
    · exact ⟨fun z => absurd z a, Or.inr l⟩
  have fin : ∀ (K : Nat) (f : Nat → Int32) (li : Nat → Int32), 1 ≤ K → hoh t m ρ f → (∀ k o, k < m → o < m → hoc t f k o) → li 1 = 0 → wpX12_laysHeights K 2 (sA t 6 f) li lj Q := by
    intro K f li hK hf hc e
    obtain ⟨K, rfl⟩ : ∃ K', K = K' + 1 := ⟨K - 1, by omega⟩
    exact ⟨fun _ => hQ f hf hc, fun c => absurd e c⟩
  intro M
  induction M with
  | zero =>
    intro K f li h0 h1 hK hf
    obtain ⟨K, rfl⟩ : ∃ K', K = K' + 1 := ⟨K - 1, by omega⟩
    show wbX12_laysHeights_2 (wpX12_laysHeights K) K (sA t 6 f) li lj Q
    refine ⟨fun z => hQ f hf (h0 z), fun c => ?_⟩
    have h1 : hm_mu m ρ f ≤ 0 := h1.elim (fun q => absurd q c) id
    refine ho_scan hm hm60 hρ (f0 := f) 1 ?_ m 0 K f _ (by omega) (by omega) hf (Or.inl ⟨rfl, rfl, fun k o _ _ d => by unfold hod at d; omega⟩) rfl
    intro K' li' f' hK' hf' g
    obtain ⟨a, b⟩ := dn0 f f' _ g
    have z : li' 1 = 0 := b.elim id (fun q => absurd q (by omega))
    exact fin K' f' li' hK' hf' (a z) z
  | succ M ih =>
    intro K f li h0 h1 hK hf
    have hK : (M + 1) * (m * (7 * m + 12) + 20) + (m * (7 * m + 12) + 20) + 5 ≤ K := by rw [Nat.succ_mul] at hK; exact hK
    obtain ⟨K, rfl⟩ : ∃ K', K = K' + 1 := ⟨K - 1, by omega⟩
    show wbX12_laysHeights_2 (wpX12_laysHeights K) K (sA t 6 f) li lj Q
    refine ⟨fun z => hQ f hf (h0 z), fun c => ?_⟩
    have h1 : hm_mu m ρ f ≤ M + 1 := h1.elim (fun q => absurd q c) id
    refine ho_scan hm hm60 hρ (f0 := f) ((M + 1) * (m * (7 * m + 12) + 20) + 5) ?_ m 0 K f _ (by omega) (by omega) hf (Or.inl ⟨rfl, rfl, fun k o _ _ d => by unfold hod at d; omega⟩) rfl
    intro K' li' f' hK' hf' g
    obtain ⟨a, b⟩ := dn0 f f' _ g
    exact ih K' f' li' a (b.elim Or.inl (fun q => Or.inr (by omega))) hK' hf'
theorem ho_zero {t : XT} {m : Nat} {lj : Nat → Int64} {Q : XT → Prop} (hm : t.1 3 = nI m) (hm60 : m ≤ 60) (L : Nat)
    (cont : ∀ (K' : Nat) (li' : Nat → Int32) (f' : Nat → Int32), L ≤ K' → (∀ k, k < m → f' k = 0) → li' 1 = 1 → wpX12_laysHeights K' 2 (sA t 6 f') li' lj Q) :
    ∀ (n c K : Nat) (f : Nat → Int32) (li : Nat → Int32), c + n = m → n + L + 1 ≤ K → (∀ k, k < c → f k = 0) → li 1 = nI c → wpX12_laysHeights K 1 (sA t 6 f) li lj Q := by
  intro n
  induction n with
  | zero =>
    intro c K f li hn hK hf e1
    obtain ⟨K, rfl⟩ : ∃ K', K = K' + 1 := ⟨K - 1, by omega⟩
    show wbX12_laysHeights_1 (wpX12_laysHeights K) K (sA t 6 f) li lj Q
    refine ⟨fun _ => cont K _ f (by omega) (fun k hk => hf k (by omega)) rfl, fun c1 => absurd (show t.1 3 ≤ li 1 from ?_) c1⟩
    rw [hm, e1]; exact nI_le (by omega) (by omega)
  | succ n ih =>
    intro c K f li hn hK hf e1
    obtain ⟨K, rfl⟩ : ∃ K', K = K' + 1 := ⟨K - 1, by omega⟩
    show wbX12_laysHeights_1 (wpX12_laysHeights K) K (sA t 6 f) li lj Q
    unfold wbX12_laysHeights_1
    rw [e1]
    refine ⟨fun c1 => absurd (show t.1 3 ≤ nI c from c1) ?_, fun _ => ⟨vp_in_nI (by omega) (by decide), fun t2 f2 v3 f3 => ?_⟩⟩
    · rw [hm]; exact nI_ge (by omega) (by omega)
    · have e2 : t2 = sA t 6 (upd f c 0) := by
        rw [f2, hm_sAA, nI_clamp (by omega)]; rfl
      rw [e2]
      refine ih (c + 1) K _ _ (by omega) (by omega) (fun k hk => ?_) (f3.trans (hs_inc c))
      rw [hm_upd_at]
      by_cases e : k = c
      · rw [if_pos e]
      · rw [if_neg e]; exact hf k (by omega)
/-- the reference's HEIGHTS -/
theorem ho_laysHeights {t : XT} {m K : Nat} {ρ : Nat → Nat} {Q : XT → Prop} (hm : t.1 3 = nI m) (hm60 : m ≤ 60) (hρ : hm_falls t m ρ) (hK : 10000000000000 ≤ K) (hQ : ∀ f h, hHt (hm_step t) m h → (∀ k, k < m → f k = nI (h k) ∧ h k < 1000000) → Q (sA t 6 f)) : wqX12_laysHeights K t Q := by
  obtain ⟨K, rfl⟩ : ∃ K', K = K' + 1 := ⟨K - 1, by omega⟩
  show wbX12_laysHeights_0 (wpX12_laysHeights K) K t (fun _ => 0) (fun _ => 0) Q
  have c1 : m * (7 * m + 12) ≤ 60 * (7 * 60 + 12) := Nat.mul_le_mul hm60 (by omega)
  obtain ⟨M, hM⟩ : ∃ M, M = 60000000 := ⟨_, rfl⟩
  have c2 : (M + 1) * (m * (7 * m + 12) + 20) ≤ (60000000 + 1) * (60 * (7 * 60 + 12) + 20) := Nat.mul_le_mul (by omega) (by omega)
  have q : ∀ f, hoh t m ρ f → (∀ k o, k < m → o < m → hoc t f k o) → Q (sA t 6 f) := by
    intro f hf hc
    refine hQ f (hoV f) ⟨fun k o hk ho st => ?_, hf.2⟩ (fun k hk => ?_)
    · have := hc k o hk ho st; omega
    · obtain ⟨a, ea, ha⟩ := hf.1 k hk
      have big := hρ.1 k hk
      have va : hoV f k = a := (congrArg Int32.toNatClampNeg ea).trans (nI_clamp (by omega))
      rw [va]; exact ⟨ea, by omega⟩
  have g := ho_zero (t := t) (lj := fun _ => 0) (Q := Q) hm hm60 ((M + 1) * (m * (7 * m + 12) + 20) + 5) (fun K' li' f' hK' hf' e1 => by
    have v0 : ∀ k, k < m → hoV f' k = 0 := fun k hk => by unfold hoV; rw [hf' k hk]; rfl
    exact ho_loop hm hm60 hρ q M K' f' li' (fun z => absurd (e1.symm.trans z) (by decide)) (Or.inr (hM ▸ hm_mu_le hm60 hρ.1)) hK' ⟨fun k hk => ⟨0, (hf' k hk).trans rfl, Nat.zero_le _⟩, fun k hk p => absurd (v0 k hk) (by omega)⟩) m 0 K (t.2.2.1 6) (uI (fun _ => 0) 1 0) (by omega) (by omega) (fun k hk => absurd hk (by omega)) rfl
  rw [hm_sA0] at g
  exact g
