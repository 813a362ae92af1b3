/-! ===== class, pure: every call but torsion keeps he: the TAPE as long as z, its invariant and its SHAPE ===== -/
def he (t : XT) (z : Nat) : Prop := ∃ m, hx_inv t (nI z) m ∧ h5_s t
theorem he_simplex {t : XT} {z : Nat} {p1 p2 : Int32} (h : he t z) : ∃ k, wqX11_simplex k t p1 p2 (fun _ t' => he t' z) := by
  obtain ⟨m, hI, hS⟩ := id h
  obtain ⟨L, hL⟩ : ∃ L, L = 100000 := ⟨_, rfl⟩
  have w : wqX11_simplex L t p1 p2 (fun _ t' => hx_inv t' (nI z) m) := hz_simplex hI (by omega) (fun r t' i => i)
  exact ⟨L, wcX11_simplex h5_kp hS w (fun r t' i s => ⟨m, i, s⟩)⟩
theorem he_number {t : XT} {z : Nat} {p1 : Int32} (h : he t z) : ∃ k, wqX11_number k t p1 (fun _ t' => he t' z) := by
  obtain ⟨m, hI, hS⟩ := id h
  obtain ⟨L, hL⟩ : ∃ L, L = 100000 := ⟨_, rfl⟩
  exact ⟨L, hz_number (by omega) (fun r => h)⟩
theorem he_sign {t : XT} {z : Nat} {p1 p2 : Int32} (h : he t z) : ∃ k, wqX11_sign k t p1 p2 (fun _ t' => he t' z) := by
  obtain ⟨m, hI, hS⟩ := id h
  obtain ⟨L, hL⟩ : ∃ L, L = 100000 := ⟨_, rfl⟩
  exact ⟨L, hz_sign hI (by omega) (fun r => h)⟩
theorem he_pair {t : XT} {z : Nat} {p1 p2 : Int32} (h : he t z) : ∃ k, wqX11_pair k t p1 p2 (fun _ t' => he t' z) := by
  obtain ⟨m, hI, hS⟩ := id h
  obtain ⟨L, hL⟩ : ∃ L, L = 100000 := ⟨_, rfl⟩
  have w : wqX11_pair L t p1 p2 (fun _ t' => hx_inv t' (nI z) m) := hz_pair hI (by omega) (fun r t' i => i)
  exact ⟨L, wcX11_pair h5_kp hS w (fun r t' i s => ⟨m, i, s⟩)⟩
theorem he_part {t : XT} {z : Nat} {p1 : Int32} (h : he t z) : ∃ k, wqX11_part k t p1 (fun _ t' => he t' z) := by
  obtain ⟨m, hI, hS⟩ := id h
  obtain ⟨L, hL⟩ : ∃ L, L = 100000 := ⟨_, rfl⟩
  have w : wqX11_part L t p1 (fun _ t' => hx_inv t' (nI z) m) := hz_part hI (by omega) (fun r t' i => i)
  exact ⟨L, wcX11_part h5_kp hS w (fun r t' i s => ⟨m, i, s⟩)⟩
theorem he_auto {t : XT} {z : Nat} {p1 : Int32} (h : he t z) : ∃ k, wqX11_auto k t p1 (fun _ t' => he t' z) := by
  obtain ⟨m, hI, hS⟩ := id h
  obtain ⟨L, hL⟩ : ∃ L, L = 100000 := ⟨_, rfl⟩
  have w : wqX11_auto L t p1 (fun _ t' => hx_inv t' (nI z) m) := hz_auto hI (by omega) (fun r t' i => i)
  exact ⟨L, wcX11_auto h5_kp hS w (fun r t' i s => ⟨m, i, s⟩)⟩
theorem he_cancel {t : XT} {z : Nat} {p1 p2 : Int32} (h : he t z) : ∃ k, wqX11_cancel k t p1 p2 (fun _ t' => he t' z) := by
  obtain ⟨m, hI, hS⟩ := id h
  obtain ⟨L, hL⟩ : ∃ L, L = 100000 := ⟨_, rfl⟩
  have w : wqX11_cancel L t p1 p2 (fun _ t' => hx_inv t' (nI z) m) := hz_cancel hI (by omega) (fun r t' i => i)
  exact ⟨L, wcX11_cancel h5_kp hS w (fun r t' i s => ⟨m, i, s⟩)⟩
theorem he_collapse {t : XT} {z : Nat} {p1 : Int32} (h : he t z) : ∃ k, wqX11_collapse k t p1 (fun _ t' => he t' z) := by
  obtain ⟨m, hI, hS⟩ := id h
  obtain ⟨L, hL⟩ : ∃ L, L = 100000 := ⟨_, rfl⟩
  have w : wqX11_collapse L t p1 (fun _ t' => hx_inv t' (nI z) m) := hz_collapse hI (by omega) (fun r t' i => i)
  exact ⟨L, wcX11_collapse h5_kp hS w (fun r t' i s => ⟨m, i, s⟩)⟩
theorem he_undo {t : XT} {z : Nat} (h : he t z) : ∃ k, wqX11_undo k t  (fun _ t' => he t' z) := by
  obtain ⟨m, hI, hS⟩ := id h
  obtain ⟨L, hL⟩ : ∃ L, L = 100000 := ⟨_, rfl⟩
  have w : wqX11_undo L t  (fun _ t' => hx_inv t' (nI z) m) := hz_undo hI (by omega) (fun r t' i => i)
  exact ⟨L, wcX11_undo h5_kp hS w (fun r t' i s => ⟨m, i, s⟩)⟩
theorem he_critical {t : XT} {z : Nat} {p1 p2 : Int32} (h : he t z) : ∃ k, wqX11_critical k t p1 p2 (fun _ t' => he t' z) := by
  obtain ⟨m, hI, hS⟩ := id h
  obtain ⟨L, hL⟩ : ∃ L, L = 100000 := ⟨_, rfl⟩
  exact ⟨L, hz_critical (by omega) (fun r => h)⟩
theorem he_paths {t : XT} {z : Nat} {p1 p2 : Int32} (h : he t z) : ∃ k, wqX11_paths k t p1 p2 (fun _ t' => he t' z) := by
  obtain ⟨m, hI, hS⟩ := id h
  obtain ⟨L, hL⟩ : ∃ L, L = 100000 := ⟨_, rfl⟩
  have w : wqX11_paths L t p1 p2 (fun _ t' => hx_inv t' (nI z) m) := hz_paths hI (by omega) (fun r t' i => i)
  exact ⟨L, wcX11_paths h5_kp hS w (fun r t' i s => ⟨m, i, s⟩)⟩
theorem he_path {t : XT} {z : Nat} {p1 p2 p3 p4 : Int32} (h : he t z) : ∃ k, wqX11_path k t p1 p2 p3 p4 (fun _ t' => he t' z) := by
  obtain ⟨m, hI, hS⟩ := id h
  obtain ⟨L, hL⟩ : ∃ L, L = 100000 := ⟨_, rfl⟩
  have w : wqX11_path L t p1 p2 p3 p4 (fun _ t' => hx_inv t' (nI z) m) := hz_path hI (by omega) (fun r t' i => i)
  exact ⟨L, wcX11_path h5_kp hS w (fun r t' i s => ⟨m, i, s⟩)⟩
theorem he_incidence {t : XT} {z : Nat} {p1 p2 : Int32} (h : he t z) : ∃ k, wqX11_incidence k t p1 p2 (fun _ t' => he t' z) := by
  obtain ⟨m, hI, hS⟩ := id h
  obtain ⟨L, hL⟩ : ∃ L, L = 100000 := ⟨_, rfl⟩
  have w : wqX11_incidence L t p1 p2 (fun _ t' => hx_inv t' (nI z) m) := hz_incidence hI (by omega) (fun r t' i => i)
  exact ⟨L, wcX11_incidence h5_kp hS w (fun r t' i s => ⟨m, i, s⟩)⟩
theorem he_chain {t : XT} {z : Nat} {p1 p2 : Int32} (h : he t z) : ∃ k, wqX11_chain k t p1 p2 (fun _ t' => he t' z) := by
  obtain ⟨m, hI, hS⟩ := id h
  obtain ⟨L, hL⟩ : ∃ L, L = 100000 := ⟨_, rfl⟩
  have w : wqX11_chain L t p1 p2 (fun _ t' => hx_inv t' (nI z) m) := hz_chain hI (by omega) (fun r t' i => i)
  exact ⟨L, wcX11_chain h5_kp hS w (fun r t' i s => ⟨m, i, s⟩)⟩
theorem he_root {t : XT} {z : Nat} {p1 p2 : Int32} (h : he t z) : ∃ k, wqX11_root k t p1 p2 (fun _ t' => he t' z) := by
  obtain ⟨m, hI, hS⟩ := id h
  obtain ⟨L, hL⟩ : ∃ L, L = 100000 := ⟨_, rfl⟩
  exact ⟨L, hz_root hI (by omega) (fun r => h)⟩
theorem he_through {t : XT} {z : Nat} {p1 p2 p3 : Int32} (h : he t z) : ∃ k, wqX11_through k t p1 p2 p3 (fun _ t' => he t' z) := by
  obtain ⟨m, hI, hS⟩ := id h
  obtain ⟨L, hL⟩ : ∃ L, L = 100000 := ⟨_, rfl⟩
  have w : wqX11_through L t p1 p2 p3 (fun _ t' => hx_inv t' (nI z) m) := hz_through hI (by omega) (fun r t' i => i)
  exact ⟨L, wcX11_through h5_kp hS w (fun r t' i s => ⟨m, i, s⟩)⟩
theorem he_squares {t : XT} {z : Nat} (h : he t z) : ∃ k, wqX11_squares k t  (fun _ t' => he t' z) := by
  obtain ⟨m, hI, hS⟩ := id h
  obtain ⟨L, hL⟩ : ∃ L, L = 100000 := ⟨_, rfl⟩
  have w : wqX11_squares L t  (fun _ t' => hx_inv t' (nI z) m) := hz_squares hI (by omega) (fun r t' i => i)
  exact ⟨L, wcX11_squares h5_kp hS w (fun r t' i s => ⟨m, i, s⟩)⟩
theorem he_betti {t : XT} {z : Nat} {p1 p2 : Int32} (h : he t z) : ∃ k, wqX11_betti k t p1 p2 (fun _ t' => he t' z) := by
  obtain ⟨m, hI, hS⟩ := id h
  obtain ⟨L, hL⟩ : ∃ L, L = 100000 := ⟨_, rfl⟩
  have w : wqX11_betti L t p1 p2 (fun _ t' => hx_inv t' (nI z) m) := hz_betti hI (by omega) (fun r t' i => i)
  exact ⟨L, wcX11_betti h5_kp hS w (fun r t' i s => ⟨m, i, s⟩)⟩
theorem he_slack {t : XT} {z : Nat} {p1 : Int32} (h : he t z) : ∃ k, wqX11_slack k t p1 (fun _ t' => he t' z) := by
  obtain ⟨m, hI, hS⟩ := id h
  obtain ⟨L, hL⟩ : ∃ L, L = 100000 := ⟨_, rfl⟩
  have w : wqX11_slack L t p1 (fun _ t' => hx_inv t' (nI z) m) := hz_slack hI (by omega) (fun r t' i => i)
  exact ⟨L, wcX11_slack h5_kp hS w (fun r t' i s => ⟨m, i, s⟩)⟩
theorem he_free {t : XT} {z : Nat} {p1 : Int32} (h : he t z) : ∃ k, wqX11_free k t p1 (fun _ t' => he t' z) := by
  obtain ⟨m, hI, hS⟩ := id h
  obtain ⟨L, hL⟩ : ∃ L, L = 100000 := ⟨_, rfl⟩
  exact ⟨L, hz_freeCall hI (by omega) (fun r => h)⟩
theorem he_facet {t : XT} {z : Nat} {p1 : Int32} (h : he t z) : ∃ k, wqX11_facet k t p1 (fun _ t' => he t' z) := by
  obtain ⟨m, hI, hS⟩ := id h
  obtain ⟨L, hL⟩ : ∃ L, L = 100000 := ⟨_, rfl⟩
  exact ⟨L, hz_facet hI (by omega) (fun r => h)⟩
theorem he_link {t : XT} {z : Nat} {p1 p2 : Int32} (h : he t z) : ∃ k, wqX11_link k t p1 p2 (fun _ t' => he t' z) := by
  obtain ⟨m, hI, hS⟩ := id h
  obtain ⟨L, hL⟩ : ∃ L, L = 100000 := ⟨_, rfl⟩
  exact ⟨L, hz_link hI (by omega) (fun r => h)⟩
theorem he_room {t : XT} {z : Nat} {p1 : Int32} (h : he t z) : ∃ k, wqX11_room k t p1 (fun _ t' => he t' z) := by
  obtain ⟨m, hI, hS⟩ := id h
  obtain ⟨L, hL⟩ : ∃ L, L = 100000 := ⟨_, rfl⟩
  exact ⟨L, hz_room hI (by omega) (fun r => h)⟩
theorem he_draws {t : XT} {z : Nat} {p1 : Int32} (h : he t z) : ∃ k, wqX11_draws k t p1 (fun _ t' => he t' z) := by
  obtain ⟨m, hI, hS⟩ := id h
  obtain ⟨L, hL⟩ : ∃ L, L = 100000 := ⟨_, rfl⟩
  have w : wqX11_draws L t p1 (fun _ t' => hx_inv t' (nI z) m) := hz_draws hI (by omega) (fun r t' i => i)
  exact ⟨L, wcX11_draws h5_kp hS w (fun r t' i s => ⟨m, i, s⟩)⟩
theorem he_drawn {t : XT} {z : Nat} {p1 p2 : Int32} (h : he t z) : ∃ k, wqX11_drawn k t p1 p2 (fun _ t' => he t' z) := by
  obtain ⟨m, hI, hS⟩ := id h
  obtain ⟨L, hL⟩ : ∃ L, L = 100000 := ⟨_, rfl⟩
  have w : wqX11_drawn L t p1 p2 (fun _ t' => hx_inv t' (nI z) m) := hz_drawn hI (by omega) (fun r t' i => i)
  exact ⟨L, wcX11_drawn h5_kp hS w (fun r t' i s => ⟨m, i, s⟩)⟩
theorem he_level {t : XT} {z : Nat} {p1 p2 : Int32} (h : he t z) : ∃ k, wqX11_level k t p1 p2 (fun _ t' => he t' z) := by
  obtain ⟨m, hI, hS⟩ := id h
  obtain ⟨L, hL⟩ : ∃ L, L = 100000 := ⟨_, rfl⟩
  have w : wqX11_level L t p1 p2 (fun _ t' => hx_inv t' (nI z) m) := hz_level hI (by omega) (fun r t' i => i)
  exact ⟨L, wcX11_level h5_kp hS w (fun r t' i s => ⟨m, i, s⟩)⟩
theorem he_levelBetti {t : XT} {z : Nat} {p1 p2 : Int32} (h : he t z) : ∃ k, wqX11_levelBetti k t p1 p2 (fun _ t' => he t' z) := by
  obtain ⟨m, hI, hS⟩ := id h
  obtain ⟨L, hL⟩ : ∃ L, L = 100000 := ⟨_, rfl⟩
  have w : wqX11_levelBetti L t p1 p2 (fun _ t' => hx_inv t' (nI z) m) := hz_levelBetti hI (by omega) (fun r t' i => i)
  exact ⟨L, wcX11_levelBetti h5_kp hS w (fun r t' i s => ⟨m, i, s⟩)⟩
theorem he_keep {t : XT} {z : Nat} {p1 : Int32} (h : he t z) : ∃ k, wqX11_keep k t p1 (fun _ t' => he t' z) := by
  obtain ⟨m, hI, hS⟩ := id h
  obtain ⟨L, hL⟩ : ∃ L, L = 100000 := ⟨_, rfl⟩
  have w : wqX11_keep L t p1 (fun _ t' => hx_inv t' (nI z) m) := hz_keep hI (by omega) (fun r t' i => i)
  exact ⟨L, wcX11_keep h5_kp hS w (fun r t' i s => ⟨m, i, s⟩)⟩
theorem he_same {t : XT} {z : Nat} {p1 : Int32} (h : he t z) : ∃ k, wqX11_same k t p1 (fun _ t' => he t' z) := by
  obtain ⟨m, hI, hS⟩ := id h
  obtain ⟨L, hL⟩ : ∃ L, L = 100000 := ⟨_, rfl⟩
  exact ⟨L, hz_same (by omega) (fun r => h)⟩
theorem he_count {t : XT} {z : Nat} {p1 : Int32} (h : he t z) : ∃ k, wqX11_count k t p1 (fun _ t' => he t' z) := by
  obtain ⟨m, hI, hS⟩ := id h
  obtain ⟨L, hL⟩ : ∃ L, L = 100000 := ⟨_, rfl⟩
  exact ⟨L, hz_count (by omega) (fun r => h)⟩
theorem he_complex {t : XT} {z : Nat} (hz : z ≤ 160) (h : he t z) : ∃ k, wqX11_complex k t  (fun _ t' => he t' 0) := by
  obtain ⟨m, hI, hS⟩ := id h
  obtain ⟨L, hL⟩ : ∃ L, L = 100000 := ⟨_, rfl⟩
  exact ⟨L, h5_complex hI hS hz (by omega) (fun r m' t' i s => ⟨m', i, s⟩)⟩
theorem he_end {t : XT} {z : Nat} {p1 : Int32} (hz : z ≤ 160) (h : he t z) : ∃ k, wqX11_end k t p1 (fun _ t' => (∃ y, y ≤ z ∧ p1 = nI y ∧ he t' y) ∨ ((∀ y, y ≤ z → p1 ≠ nI y) ∧ he t' z)) := by
  obtain ⟨m, hI, hS⟩ := id h
  obtain ⟨L, hL⟩ : ∃ L, L = 100000 := ⟨_, rfl⟩
  have w : wqX11_end L t p1 (fun _ t' => (∃ y, y ≤ z ∧ p1 = nI y ∧ hx_inv t' (nI y) m) ∨ ((∀ y, y ≤ z → p1 ≠ nI y) ∧ hx_inv t' (nI z) m)) := hz_end hI hz (by omega) (fun y hy e t' i => Or.inl ⟨y, hy, e, i⟩) (fun q => Or.inr ⟨q, hI⟩)
  refine ⟨L, wcX11_end h5_kp hS w (fun r t' i s => ?_)⟩
  rcases i with ⟨y, a, b, i⟩ | ⟨q, i⟩
  · exact Or.inl ⟨y, a, b, m, i, s⟩
  · exact Or.inr ⟨q, m, i, s⟩
theorem he_feed {t : XT} {z : Nat} {p1 p2 p3 p4 p5 : Int32} (hz : z ≤ 160) (h : he t z) : ∃ k, wqX11_feed k t p1 p2 p3 p4 p5 (fun r t' => (z + 20 ≤ 160 ∧ r = nI (z + 20) ∧ he t' (z + 20)) ∨ (¬ z + 20 ≤ 160 ∧ r = -1 ∧ he t' z)) := by
  obtain ⟨m, hI, hS⟩ := id h
  obtain ⟨L, hL⟩ : ∃ L, L = 100000 := ⟨_, rfl⟩
  have w : wqX11_feed L t p1 p2 p3 p4 p5 (fun r t' => (z + 20 ≤ 160 ∧ r = nI (z + 20) ∧ hx_inv t' (nI (z + 20)) m) ∨ (¬ z + 20 ≤ 160 ∧ r = -1 ∧ hx_inv t' (nI z) m)) := hz_feed hI hz (by omega) (fun q t' i => Or.inl ⟨q, rfl, i⟩) (fun q => Or.inr ⟨q, rfl, hI⟩)
  refine ⟨L, wcX11_feed h5_kp hS w (fun r t' i s => ?_)⟩
  rcases i with ⟨a, b, i⟩ | ⟨a, b, i⟩
  · exact Or.inl ⟨a, b, m, i, s⟩
  · exact Or.inr ⟨a, b, m, i, s⟩
theorem he_0 : he tx0 0 := by
  obtain ⟨m, hI, hS⟩ := hd_0
  obtain rfl : 0 = m := (nI_eq (a := 0) (b := m) (by omega) (by have := hI.2.2.1; omega)).mp hI.2.1
  exact ⟨0, hI, hS, 0, 0, by omega, rfl, by omega, fun k h => absurd h (by omega), Or.inr (fun k h => absurd h (by omega))⟩
/-- what torsion of the class still wants of a state: tables by INCIDENCES -/
def h5_left (t : XT) (z : Int32) (m K0 : Nat) : Prop := ∀ s d, d < 4 → hx_minor t s (nI (d + 1)) 1 z m K0
theorem he_torsion {t : XT} {z : Nat} {p1 p2 p3 : Int32} (K0 : Nat) (h : he t z) (hL : ∀ m, hx_inv t (nI z) m → h5_left t (nI z) m K0) : ∃ k, wqX11_torsion k t p1 p2 p3 (fun _ t' => he t' z) := by
  obtain ⟨m, hI, hS⟩ := id h
  obtain ⟨L, hk⟩ : ∃ L, L = 36000 + (8000 + K0) := ⟨_, rfl⟩
  have w : wqX11_torsion L t p1 p2 p3 (fun _ t' => hx_inv t' (nI z) m) := hc_torsion hI hS.1 (K0 := 8000 + K0) ⟨fun s => hx_minor_up (h5_minor hI hS) (by omega), fun s d hd => hx_minor_up (hL m hI s d hd) (by omega)⟩ (by omega) (fun r t' i => i)
  exact ⟨L, wcX11_torsion h5_kp hS w (fun r t' i s => ⟨m, i, s⟩)⟩
