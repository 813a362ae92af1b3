/-! ===== the reference, without the machine: acyclic PAIRS give a function that falls along every step (so laysHeights ends) ===== -/
theorem hm_bc_lt (v : Int32) : ∃ j, j < 64 ∧ hm_bc v = nI j := pk_andE _ 6 (by decide)
def hm_D (t : XT) (k : Nat) : Nat := (hm_bc (hm_let t k)).toNatClampNeg
theorem hm_D_lt (t : XT) (k : Nat) : hm_D t k < 64 ∧ hm_bc (hm_let t k) = nI (hm_D t k) := by
  obtain ⟨j, hj, e⟩ := hm_bc_lt (hm_let t k)
  unfold hm_D
  rw [e, nI_clamp (by omega)]
  exact ⟨hj, rfl⟩
theorem hm_D_face {t : XT} {f s : Nat} (h : hm_face t f s) : hm_D t s = hm_D t f + 1 := by
  obtain ⟨a1, a2⟩ := hm_D_lt t f
  obtain ⟨b1, b2⟩ := hm_D_lt t s
  have e := h.1
  unfold hm_dim at e
  rw [a2, b2] at e
  have e2 : nI (hm_D t s) = nI (hm_D t f + 1) := by
    have u := congrArg (· + 1) e
    have v : nI (hm_D t s) - 1 + 1 = nI (hm_D t s) := by rw [Int32.sub_add_cancel]
    have w : nI (hm_D t f) - 1 + 1 + 1 = nI (hm_D t f + 1) := by rw [Int32.sub_add_cancel]; exact nI_1 _
    exact v.symm.trans (u.trans w)
  exact (nI_eq (by omega) (by omega)).mp e2
/-- the PAIRS: none, or a face and what it is a face of, each the other's partner -/
def hm_match (t : XT) (m : Nat) : Prop := ∀ k, k < m → hm_par t k = -1 ∨ ∃ p, p < m ∧ hm_par t k = nI p ∧ hm_par t p = nI k ∧ ((k < p ∧ hm_face t k p) ∨ (p < k ∧ hm_face t p k))
theorem hm_low_iff {t : XT} {k p : Nat} (hk : k < 60) (hp : p < 60) (e : hm_par t k = nI p) : hm_low t k ↔ k < p := by
  unfold hm_low
  rw [e]
  exact ⟨fun q => (nI_ltI (by omega) (by omega)).mp q.2, fun q => ⟨hs_nI_neg (by omega), nI_lt q (by omega)⟩⟩
theorem hm_match_pars {t : XT} {m : Nat} (h : hm_match t m) : hm_pars t m := by
  intro k hk hl
  rcases h k hk with q | ⟨p, hp, e, _, _⟩
  · exact absurd q hl.1
  · exact ⟨p, hp, e⟩
noncomputable def hm_rho (t : XT) (δ : Nat → Nat) (k : Nat) : Nat :=
  if hm_ind (hm_low t k) = 1 then 200 * hm_D t k + 2 * δ k + 2 else if hm_par t k = -1 then 200 * hm_D t k else 200 * hm_D t (hm_par t k).toNatClampNeg + 2 * δ (hm_par t k).toNatClampNeg + 1
theorem hm_rho_low {t : XT} {δ : Nat → Nat} {k : Nat} (h : hm_low t k) : hm_rho t δ k = 200 * hm_D t k + 2 * δ k + 2 := if_pos (hm_ind1 h)
theorem hm_rho_crit {t : XT} {δ : Nat → Nat} {k : Nat} (h : hm_par t k = -1) : hm_rho t δ k = 200 * hm_D t k := by
  unfold hm_rho
  have no : ¬ hm_low t k := fun q => q.1 h
  rw [hm_ind0 no, if_neg (show ¬ (0 : Int32) = 1 by decide), if_pos h]
theorem hm_rho_up {t : XT} {δ : Nat → Nat} {k p : Nat} (hk : k < 60) (hp : p < 60) (e : hm_par t k = nI p) (h : p < k) : hm_rho t δ k = 200 * hm_D t p + 2 * δ p + 1 := by
  unfold hm_rho
  have no : ¬ hm_low t k := fun q => absurd ((hm_low_iff hk hp e).mp q) (by omega)
  rw [hm_ind0 no, if_neg (show ¬ (0 : Int32) = 1 by decide), e, if_neg (hs_nI_neg (by omega)), nI_clamp (by omega)]
theorem hm_rho_lt {t : XT} {m : Nat} {δ : Nat → Nat} (hm60 : m ≤ 60) (hM : hm_match t m) (h1 : ∀ f, f < m → hm_low t f → δ f < 60) {k : Nat} (hk : k < m) : hm_rho t δ k ≤ 200 * hm_D t k + 122 := by
  rcases hM k hk with q | ⟨p, hp, e, e', ⟨a, b⟩ | ⟨a, b⟩⟩
  · rw [hm_rho_crit q]; omega
  · have l := (hm_low_iff (by omega) (by omega) e).mpr a
    have u := h1 k hk l
    rw [hm_rho_low l]; omega
  · have l := (hm_low_iff (by omega) (by omega) e').mpr a
    have u := h1 p hp l
    have d := hm_D_face b
    rw [hm_rho_up (by omega) (by omega) e a]; omega
theorem hm_rho_ge {t : XT} {m : Nat} {δ : Nat → Nat} (hm60 : m ≤ 60) (hM : hm_match t m) {k : Nat} (hk : k < m) (h : hm_low t k ∨ hm_par t k = -1) : 200 * hm_D t k ≤ hm_rho t δ k := by
  rcases h with h | h
  · rw [hm_rho_low h]; omega
  · rw [hm_rho_crit h]; omega
theorem hm_falls_of {t : XT} {m : Nat} (hm60 : m ≤ 60) (hM : hm_match t m) (hA : hm_acyc t m) : ∃ ρ, hm_falls t m ρ := by
  obtain ⟨δ, h1, h2⟩ := hA
  refine ⟨hm_rho t δ, fun k hk => ?_, fun k o hk ho st => ?_⟩
  · have u := hm_rho_lt hm60 hM h1 hk
    have v := (hm_D_lt t k).1
    omega
  · have uo := hm_rho_lt hm60 hM h1 ho
    rcases st with ⟨⟨_, _, fc⟩, ne⟩ | ⟨⟨_, _, fc⟩, eq⟩
    · -- down to a face that is not the partner
      have d := hm_D_face fc
      rcases hM k hk with q | ⟨p, hp, e, e', ⟨a, b⟩ | ⟨a, b⟩⟩
      · have g := hm_rho_ge (δ := δ) hm60 hM hk (Or.inr q)
        omega
      · have g := hm_rho_ge (δ := δ) hm60 hM hk (Or.inl ((hm_low_iff (by omega) (by omega) e).mpr a))
        omega
      · -- k is the other one of its pair: p is its face, o another face
        have dp := hm_D_face b
        have lp := (hm_low_iff (by omega) (by omega) e').mpr a
        have op : o ≠ p := fun q => ne (e.trans (congrArg nI q.symm))
        rw [hm_rho_up (by omega) (by omega) e a]
        rcases hM o ho with q | ⟨r, hr, f, f', ⟨c, g⟩ | ⟨c, g⟩⟩
        · rw [hm_rho_crit q]; omega
        · have lo := (hm_low_iff (by omega) (by omega) f).mpr c
          have fall := h2 p o hp ho lp lo op ⟨k, by omega, e', fc⟩
          rw [hm_rho_low lo]; omega
        · have lr := (hm_low_iff (by omega) (by omega) f').mpr c
          have dr := hm_D_face g
          have ur := h1 r hr lr
          rw [hm_rho_up (by omega) (by omega) f c]; omega
    · -- up to the partner
      rcases hM k hk with q | ⟨p, hp, e, e', ⟨a, b⟩ | ⟨a, b⟩⟩
      · exact absurd (q.symm.trans eq).symm (hs_nI_neg (by omega))
      · obtain rfl := (nI_eq (by omega) (by omega)).mp (e.symm.trans eq)
        have l := (hm_low_iff (by omega) (by omega) e).mpr a
        rw [hm_rho_low l, hm_rho_up (by omega) (by omega) e' a]; omega
      · obtain rfl := (nI_eq (by omega) (by omega)).mp (e.symm.trans eq)
        have d1 := hm_D_face b
        have d2 := hm_D_face fc
        omega
