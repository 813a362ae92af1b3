/-! ===== the class: tables of DIM 4 by SIGNS; complex lays h5_s, all other calls keep it ===== -/
def h5_sh (t : XT) : Prop := ∃ m m2, m ≤ 60 ∧ t.1 4 = nI m ∧ m2 ≤ m ∧ (∀ k, k < m → k < m2 → ∃ e, e ≤ 2 ∧ t.2.2.1 3 k = nI e) ∧ (25 ≤ m2 ∨ ∀ k, k < m → t.2.2.1 3 k ≠ nI 4)
def h5_s (t : XT) : Prop := hc_sh t ∧ h5_sh t
theorem h5_sh_fr {t t' : XT} (h : h5_sh t) (e4 : t'.1 4 = t.1 4) (e3 : t'.2.2.1 3 = t.2.2.1 3) : h5_sh t' := by
  obtain ⟨m, m2, a1, a2, a3, a4, a5⟩ := h
  exact ⟨m, m2, a1, e4.trans a2, a3, by rw [e3]; exact a4, by rw [e3]; exact a5⟩
theorem h5_kp : kp h5_s := by
  obtain ⟨k1, k2, k3, k4⟩ := hc_kp
  refine ⟨fun u i v hi h => ⟨k1 u i v hi h.1, ?_⟩, fun u i v h => ⟨k2 u i v h.1, ?_⟩, fun u i f h2 h3 h4 h => ⟨k3 u i f h2 h3 h4 h.1, ?_⟩, fun u i f h0 h1 h2 h => ⟨k4 u i f h0 h1 h2 h.1, ?_⟩⟩
  · exact h5_sh_fr h.2 (hc_uI u.1 v hi) rfl
  · exact h5_sh_fr h.2 rfl rfl
  · exact h5_sh_fr h.2 rfl (hc_uI u.2.2.1 f h3)
  · exact h5_sh_fr h.2 rfl rfl
theorem cp_two (P R : Nat → Bool) {m2 : Nat} (h : ∀ k, P k = true → R k = true → False) (h0 : ∀ k, k < m2 → P k = false ∧ R k = false) : ∀ m, cp P m + cp R m ≤ m - m2 := by
  intro m
  induction m with
  | zero => exact Nat.zero_le _
  | succ m ih =>
    show cp P m + (if P m = true then 1 else 0) + (cp R m + (if R m = true then 1 else 0)) ≤ m + 1 - m2
    by_cases q : m < m2
    · obtain ⟨a, b⟩ := h0 m q
      rw [a, b, if_neg (by decide)]; omega
    · by_cases a : P m = true
      · by_cases b : R m = true
        · exact (h m a b).elim
        · rw [if_pos a, if_neg b]; omega
      · by_cases b : R m = true
        · rw [if_neg a, if_pos b]; omega
        · rw [if_neg a, if_neg b]; omega
theorem h5_minor {t : XT} {z : Int32} {m : Nat} {s : Int64} (hI : hx_inv t z m) (hS : h5_s t) : hx_minor t s (nI 4) 0 z m 8000 := by
  intro K Q hK q1 _
  obtain ⟨S1, m1, m2, a1, a2, a3, a4, a5⟩ := id hS
  obtain ⟨m', b1, b2, b3, b4⟩ := id S1
  obtain rfl : m1 = m' := (nI_eq (by omega) (by omega)).mp (a2.symm.trans b2)
  have hu : ∀ k, hb (s &&& t.2.2.2 2 (3 + 1)) k = true → k < m1 ∧ t.2.2.1 3 k = nI 4 := by
    intro k hk
    rw [hb_and, Bool.and_eq_true] at hk
    exact b4 4 k (by omega) hk.2
  have hv : ∀ k, hb (s &&& t.2.2.2 2 3) k = true → k < m1 ∧ t.2.2.1 3 k = nI 3 := by
    intro k hk
    rw [hb_and, Bool.and_eq_true] at hk
    exact b4 3 k (by omega) hk.2
  have off : ∀ {P : Nat → Bool} {k : Nat}, (P k = true → False) → P k = false := by
    intro P k h
    cases q : P k with
    | false => rfl
    | true => exact (h q).elim
  refine hc_rank0 (d := 3) hI S1 (by omega) (fun i _ h1 h2 => hc_pw5 i ?_) hK (fun r t' hr i _ p => q1 r t' hr i p)
  have z1 : ∀ i, m1 ≤ i → hb (s &&& t.2.2.2 2 (3 + 1)) i = false := fun i hi => off (P := hb (s &&& t.2.2.2 2 (3 + 1))) (fun q => by have := (hu i q).1; omega)
  have z2 : ∀ i, m1 ≤ i → hb (s &&& t.2.2.2 2 3) i = false := fun i hi => off (P := hb (s &&& t.2.2.2 2 3)) (fun q => by have := (hv i q).1; omega)
  have c1 : cp (hb (s &&& t.2.2.2 2 (3 + 1))) 64 = cp (hb (s &&& t.2.2.2 2 (3 + 1))) m1 := by
    have := cp_z (hb (s &&& t.2.2.2 2 (3 + 1))) (m := m1) (64 - m1) z1
    rw [show m1 + (64 - m1) = 64 by omega] at this; exact this
  have c2 : cp (hb (s &&& t.2.2.2 2 3)) 64 = cp (hb (s &&& t.2.2.2 2 3)) m1 := by
    have := cp_z (hb (s &&& t.2.2.2 2 3)) (m := m1) (64 - m1) z2
    rw [show m1 + (64 - m1) = 64 by omega] at this; exact this
  rcases a5 with a5 | a5
  · have low : ∀ k, k < m1 → k < m2 → t.2.2.1 3 k ≠ nI 3 ∧ t.2.2.1 3 k ≠ nI 4 := by
      intro k hk hk2
      obtain ⟨e, e2, e4⟩ := a4 k hk hk2
      refine ⟨fun q => ?_, fun q => ?_⟩
      · have := (nI_eq (by omega) (by omega)).mp (e4.symm.trans q); omega
      · have := (nI_eq (by omega) (by omega)).mp (e4.symm.trans q); omega
    have tw := cp_two (hb (s &&& t.2.2.2 2 (3 + 1))) (hb (s &&& t.2.2.2 2 3)) (m2 := m2) (fun k p q => by
      have := (nI_eq (by omega) (by omega)).mp ((hu k p).2.symm.trans (hv k q).2)
      omega) (fun k hk => ⟨off (P := hb (s &&& t.2.2.2 2 (3 + 1))) (fun q => (low k (hu k q).1 hk).2 (hu k q).2), off (P := hb (s &&& t.2.2.2 2 3)) (fun q => (low k (hv k q).1 hk).1 (hv k q).2)⟩) m1
    omega
  · have z : cp (hb (s &&& t.2.2.2 2 (3 + 1))) (0 + 64) = 0 := cp_z (hb (s &&& t.2.2.2 2 (3 + 1))) (m := 0) 64 (fun k _ => off (P := hb (s &&& t.2.2.2 2 (3 + 1))) (fun q => a5 k (hu k q).1 (hu k q).2))
    rw [show 0 + 64 = 64 by omega] at z
    omega
theorem h5_build {t : XT} {z : Int32} {m K : Nat} {Q : XT → Prop} (hI : hx_inv t z m) (hR : hx_cl (t.2.2.1 1)) (hK : 4000 ≤ K) (hQ : ∀ m t', hx_inv t' z m → h5_s t' → Q t') : wqX9_build_c13 K t Q := by
  obtain ⟨K, rfl⟩ : ∃ K', K = K' + 1 := ⟨K - 1, by omega⟩
  show wbX9_build_c13_0 (wpX9_build_c13 K) K t (fun _ => 0) (fun _ => 0) Q
  intro t1 e1 t2 e2 t3 e3 t4 e4 t5 e5
  obtain ⟨a1, a2, a3, a4, a5, a6, a7, a8, a9, a10, a11⟩ := hI
  subst e5 e4 e3 e2 e1
  refine h5_go (R := t.2.2.1 1) hR (fun m' t' i b h => hQ m' t' i ⟨hc_sh_b i b, ?_⟩) 5 0 0 K _ _ (by omega) (by omega) ⟨a1, rfl, by omega, a4, a5, a6, fun _ _ => Or.inl rfl, a8, a9, a10, a11⟩ ⟨fun k hk => absurd hk (by omega), fun d k hd hk => ?_, fun k f _ _ => hb_0 f, fun _ _ => Or.inl rfl⟩ (fun h => absurd h (by omega)) (fun _ => ⟨rfl, fun _ k hk => absurd hk (by omega), fun h => absurd h (by omega)⟩) (fun _ => Or.inr (Nat.le_refl 0)) rfl
  · obtain ⟨g1, g2, g3⟩ := h
    obtain ⟨m2, f1, f2, f3, f4⟩ := g3 (by omega)
    exact ⟨m', m2, i.2.2.1, i.2.1, f1, f2, f4⟩
  · have hk : hb 0 k = true := hk
    rw [hb_0] at hk
    exact absurd hk (by decide)
theorem h5_complex {t : XT} {y m K : Nat} {Q : Int32 → XT → Prop} (hI : hx_inv t (nI y) m) (hS : h5_s t) (hy : y ≤ 160) (hK : 5000 ≤ K) (hQ : ∀ r m' t', hx_inv t' (nI 0) m' → h5_s t' → Q r t') : wqX11_complex K t Q := by
  obtain ⟨K, rfl⟩ : ∃ K', K = K' + 1 := ⟨K - 1, by omega⟩
  show wbX11_complex_0 (wpX11_complex K) K t (fun _ => 0) (fun _ => 0) Q
  have rd : wqX8_read_c1 K t (fun _ t1 => ∃ p1, hx_rc t1 y m p1) := hy_read hI hy (by omega) (fun r1 p1 t1 h1 => ⟨p1, h1⟩)
  refine wcX8_read_c1 h5_kp hS rd (fun r1 t1 h1 s1 t2 e2 => ?_)
  obtain ⟨p1, h1, c1⟩ := h1
  have h2 : hx_inv t2 (nI 0) m := by
    obtain ⟨a1, a2, a3, a4, a5, a6, a7, a8, a9, a10, a11⟩ := h1.1
    subst e2
    exact ⟨rfl, a2, a3, a4, a5, a6, a7, a8, a9, a10, a11⟩
  have s2 : h5_s t2 := by rw [e2]; exact h5_kp.1 _ _ _ (by decide) s1
  have c2 : hx_cl (t2.2.2.1 1) := by rw [e2]; exact c1
  refine ⟨fun _ => h5_build h2 c2 (by omega) (fun m4 t4 h4 b4 => ?_), fun _ v9 _ => hQ v9 m t2 h2 s2⟩
  refine hz_all (by omega) (fun v => ?_)
  have rs : wqX6_restart K t4 v (fun t' => hx_inv t' (nI 0) m4) := hz_restart h4 (by omega) (fun t' h' => h')
  refine wcX6_restart h5_kp b4 rs (fun t6 h6 s6 t7 e7 => ?_)
  obtain ⟨K, rfl⟩ : ∃ K', K = K' + 1 := ⟨K - 1, by omega⟩
  intro t8 e8
  have s8 : h5_s t8 := by rw [e8, e7]; exact h5_kp.2.1 _ _ _ (h5_kp.1 _ _ _ (by decide) s6)
  refine hQ _ m4 t8 ?_ s8
  subst e8 e7
  exact hx_frame h6 rfl rfl rfl rfl rfl rfl h6.2.2.2.2.2.2.2.1 rfl rfl
