/-! ===== class, pure: every call but torsion keeps hd: the TAPE as long as z, its invariant and its SHAPE ===== -/
def hd (t : XT) (z : Nat) : Prop := ∃ m, hx_inv t (nI z) m ∧ hc_sh t
theorem hd_simplex {t : XT} {z : Nat} {p1 p2 : Int32} (h : hd t z) : ∃ k, wqX11_simplex k t p1 p2 (fun _ t' => hd t' z) := by
  obtain ⟨m, hI, hS⟩ := id h
  obtain ⟨L, hL⟩ : ∃ L, L = 100000 := ⟨_, rfl⟩
  have w : wqX11_simplex L t p1 p2 (fun _ t' => hx_inv t' (nI z) m) := hz_simplex hI (by omega) (fun r t' i => i)
  exact ⟨L, wcX11_simplex hc_kp hS w (fun r t' i s => ⟨m, i, s⟩)⟩
theorem hd_number {t : XT} {z : Nat} {p1 : Int32} (h : hd t z) : ∃ k, wqX11_number k t p1 (fun _ t' => hd t' z) := by
  obtain ⟨m, hI, hS⟩ := id h
  obtain ⟨L, hL⟩ : ∃ L, L = 100000 := ⟨_, rfl⟩
  exact ⟨L, hz_number (by omega) (fun r => h)⟩
theorem hd_sign {t : XT} {z : Nat} {p1 p2 : Int32} (h : hd t z) : ∃ k, wqX11_sign k t p1 p2 (fun _ t' => hd t' z) := by
  obtain ⟨m, hI, hS⟩ := id h
  obtain ⟨L, hL⟩ : ∃ L, L = 100000 := ⟨_, rfl⟩
  exact ⟨L, hz_sign hI (by omega) (fun r => h)⟩
theorem hd_pair {t : XT} {z : Nat} {p1 p2 : Int32} (h : hd t z) : ∃ k, wqX11_pair k t p1 p2 (fun _ t' => hd t' z) := by
  obtain ⟨m, hI, hS⟩ := id h
  obtain ⟨L, hL⟩ : ∃ L, L = 100000 := ⟨_, rfl⟩
  have w : wqX11_pair L t p1 p2 (fun _ t' => hx_inv t' (nI z) m) := hz_pair hI (by omega) (fun r t' i => i)
  exact ⟨L, wcX11_pair hc_kp hS w (fun r t' i s => ⟨m, i, s⟩)⟩
theorem hd_part {t : XT} {z : Nat} {p1 : Int32} (h : hd t z) : ∃ k, wqX11_part k t p1 (fun _ t' => hd t' z) := by
  obtain ⟨m, hI, hS⟩ := id h
  obtain ⟨L, hL⟩ : ∃ L, L = 100000 := ⟨_, rfl⟩
  have w : wqX11_part L t p1 (fun _ t' => hx_inv t' (nI z) m) := hz_part hI (by omega) (fun r t' i => i)
  exact ⟨L, wcX11_part hc_kp hS w (fun r t' i s => ⟨m, i, s⟩)⟩
theorem hd_auto {t : XT} {z : Nat} {p1 : Int32} (h : hd t z) : ∃ k, wqX11_auto k t p1 (fun _ t' => hd t' z) := by
  obtain ⟨m, hI, hS⟩ := id h
  obtain ⟨L, hL⟩ : ∃ L, L = 100000 := ⟨_, rfl⟩
  have w : wqX11_auto L t p1 (fun _ t' => hx_inv t' (nI z) m) := hz_auto hI (by omega) (fun r t' i => i)
  exact ⟨L, wcX11_auto hc_kp hS w (fun r t' i s => ⟨m, i, s⟩)⟩
theorem hd_cancel {t : XT} {z : Nat} {p1 p2 : Int32} (h : hd t z) : ∃ k, wqX11_cancel k t p1 p2 (fun _ t' => hd t' z) := by
  obtain ⟨m, hI, hS⟩ := id h
  obtain ⟨L, hL⟩ : ∃ L, L = 100000 := ⟨_, rfl⟩
  have w : wqX11_cancel L t p1 p2 (fun _ t' => hx_inv t' (nI z) m) := hz_cancel hI (by omega) (fun r t' i => i)
  exact ⟨L, wcX11_cancel hc_kp hS w (fun r t' i s => ⟨m, i, s⟩)⟩
theorem hd_collapse {t : XT} {z : Nat} {p1 : Int32} (h : hd t z) : ∃ k, wqX11_collapse k t p1 (fun _ t' => hd t' z) := by
  obtain ⟨m, hI, hS⟩ := id h
  obtain ⟨L, hL⟩ : ∃ L, L = 100000 := ⟨_, rfl⟩
  have w : wqX11_collapse L t p1 (fun _ t' => hx_inv t' (nI z) m) := hz_collapse hI (by omega) (fun r t' i => i)
  exact ⟨L, wcX11_collapse hc_kp hS w (fun r t' i s => ⟨m, i, s⟩)⟩
theorem hd_undo {t : XT} {z : Nat} (h : hd t z) : ∃ k, wqX11_undo k t  (fun _ t' => hd t' z) := by
  obtain ⟨m, hI, hS⟩ := id h
  obtain ⟨L, hL⟩ : ∃ L, L = 100000 := ⟨_, rfl⟩
  have w : wqX11_undo L t  (fun _ t' => hx_inv t' (nI z) m) := hz_undo hI (by omega) (fun r t' i => i)
  exact ⟨L, wcX11_undo hc_kp hS w (fun r t' i s => ⟨m, i, s⟩)⟩
theorem hd_critical {t : XT} {z : Nat} {p1 p2 : Int32} (h : hd t z) : ∃ k, wqX11_critical k t p1 p2 (fun _ t' => hd t' z) := by
  obtain ⟨m, hI, hS⟩ := id h
  obtain ⟨L, hL⟩ : ∃ L, L = 100000 := ⟨_, rfl⟩
  exact ⟨L, hz_critical (by omega) (fun r => h)⟩
theorem hd_paths {t : XT} {z : Nat} {p1 p2 : Int32} (h : hd t z) : ∃ k, wqX11_paths k t p1 p2 (fun _ t' => hd t' z) := by
  obtain ⟨m, hI, hS⟩ := id h
  obtain ⟨L, hL⟩ : ∃ L, L = 100000 := ⟨_, rfl⟩
  have w : wqX11_paths L t p1 p2 (fun _ t' => hx_inv t' (nI z) m) := hz_paths hI (by omega) (fun r t' i => i)
  exact ⟨L, wcX11_paths hc_kp hS w (fun r t' i s => ⟨m, i, s⟩)⟩
theorem hd_path {t : XT} {z : Nat} {p1 p2 p3 p4 : Int32} (h : hd t z) : ∃ k, wqX11_path k t p1 p2 p3 p4 (fun _ t' => hd t' z) := by
  obtain ⟨m, hI, hS⟩ := id h
  obtain ⟨L, hL⟩ : ∃ L, L = 100000 := ⟨_, rfl⟩
  have w : wqX11_path L t p1 p2 p3 p4 (fun _ t' => hx_inv t' (nI z) m) := hz_path hI (by omega) (fun r t' i => i)
  exact ⟨L, wcX11_path hc_kp hS w (fun r t' i s => ⟨m, i, s⟩)⟩
theorem hd_incidence {t : XT} {z : Nat} {p1 p2 : Int32} (h : hd t z) : ∃ k, wqX11_incidence k t p1 p2 (fun _ t' => hd t' z) := by
  obtain ⟨m, hI, hS⟩ := id h
  obtain ⟨L, hL⟩ : ∃ L, L = 100000 := ⟨_, rfl⟩
  have w : wqX11_incidence L t p1 p2 (fun _ t' => hx_inv t' (nI z) m) := hz_incidence hI (by omega) (fun r t' i => i)
  exact ⟨L, wcX11_incidence hc_kp hS w (fun r t' i s => ⟨m, i, s⟩)⟩
theorem hd_chain {t : XT} {z : Nat} {p1 p2 : Int32} (h : hd t z) : ∃ k, wqX11_chain k t p1 p2 (fun _ t' => hd t' z) := by
  obtain ⟨m, hI, hS⟩ := id h
  obtain ⟨L, hL⟩ : ∃ L, L = 100000 := ⟨_, rfl⟩
  have w : wqX11_chain L t p1 p2 (fun _ t' => hx_inv t' (nI z) m) := hz_chain hI (by omega) (fun r t' i => i)
  exact ⟨L, wcX11_chain hc_kp hS w (fun r t' i s => ⟨m, i, s⟩)⟩
theorem hd_root {t : XT} {z : Nat} {p1 p2 : Int32} (h : hd t z) : ∃ k, wqX11_root k t p1 p2 (fun _ t' => hd t' z) := by
  obtain ⟨m, hI, hS⟩ := id h
  obtain ⟨L, hL⟩ : ∃ L, L = 100000 := ⟨_, rfl⟩
  exact ⟨L, hz_root hI (by omega) (fun r => h)⟩
theorem hd_through {t : XT} {z : Nat} {p1 p2 p3 : Int32} (h : hd t z) : ∃ k, wqX11_through k t p1 p2 p3 (fun _ t' => hd t' z) := by
  obtain ⟨m, hI, hS⟩ := id h
  obtain ⟨L, hL⟩ : ∃ L, L = 100000 := ⟨_, rfl⟩
  have w : wqX11_through L t p1 p2 p3 (fun _ t' => hx_inv t' (nI z) m) := hz_through hI (by omega) (fun r t' i => i)
  exact ⟨L, wcX11_through hc_kp hS w (fun r t' i s => ⟨m, i, s⟩)⟩
theorem hd_squares {t : XT} {z : Nat} (h : hd t z) : ∃ k, wqX11_squares k t  (fun _ t' => hd t' z) := by
  obtain ⟨m, hI, hS⟩ := id h
  obtain ⟨L, hL⟩ : ∃ L, L = 100000 := ⟨_, rfl⟩
  have w : wqX11_squares L t  (fun _ t' => hx_inv t' (nI z) m) := hz_squares hI (by omega) (fun r t' i => i)
  exact ⟨L, wcX11_squares hc_kp hS w (fun r t' i s => ⟨m, i, s⟩)⟩
theorem hd_betti {t : XT} {z : Nat} {p1 p2 : Int32} (h : hd t z) : ∃ k, wqX11_betti k t p1 p2 (fun _ t' => hd t' z) := by
  obtain ⟨m, hI, hS⟩ := id h
  obtain ⟨L, hL⟩ : ∃ L, L = 100000 := ⟨_, rfl⟩
  have w : wqX11_betti L t p1 p2 (fun _ t' => hx_inv t' (nI z) m) := hz_betti hI (by omega) (fun r t' i => i)
  exact ⟨L, wcX11_betti hc_kp hS w (fun r t' i s => ⟨m, i, s⟩)⟩
theorem hd_slack {t : XT} {z : Nat} {p1 : Int32} (h : hd t z) : ∃ k, wqX11_slack k t p1 (fun _ t' => hd t' z) := by
  obtain ⟨m, hI, hS⟩ := id h
  obtain ⟨L, hL⟩ : ∃ L, L = 100000 := ⟨_, rfl⟩
  have w : wqX11_slack L t p1 (fun _ t' => hx_inv t' (nI z) m) := hz_slack hI (by omega) (fun r t' i => i)
  exact ⟨L, wcX11_slack hc_kp hS w (fun r t' i s => ⟨m, i, s⟩)⟩
theorem hd_free {t : XT} {z : Nat} {p1 : Int32} (h : hd t z) : ∃ k, wqX11_free k t p1 (fun _ t' => hd t' z) := by
  obtain ⟨m, hI, hS⟩ := id h
  obtain ⟨L, hL⟩ : ∃ L, L = 100000 := ⟨_, rfl⟩
  exact ⟨L, hz_freeCall hI (by omega) (fun r => h)⟩
theorem hd_facet {t : XT} {z : Nat} {p1 : Int32} (h : hd t z) : ∃ k, wqX11_facet k t p1 (fun _ t' => hd t' z) := by
  obtain ⟨m, hI, hS⟩ := id h
  obtain ⟨L, hL⟩ : ∃ L, L = 100000 := ⟨_, rfl⟩
  exact ⟨L, hz_facet hI (by omega) (fun r => h)⟩
theorem hd_link {t : XT} {z : Nat} {p1 p2 : Int32} (h : hd t z) : ∃ k, wqX11_link k t p1 p2 (fun _ t' => hd t' z) := by
  obtain ⟨m, hI, hS⟩ := id h
  obtain ⟨L, hL⟩ : ∃ L, L = 100000 := ⟨_, rfl⟩
  exact ⟨L, hz_link hI (by omega) (fun r => h)⟩
theorem hd_room {t : XT} {z : Nat} {p1 : Int32} (h : hd t z) : ∃ k, wqX11_room k t p1 (fun _ t' => hd t' z) := by
  obtain ⟨m, hI, hS⟩ := id h
  obtain ⟨L, hL⟩ : ∃ L, L = 100000 := ⟨_, rfl⟩
  exact ⟨L, hz_room hI (by omega) (fun r => h)⟩
theorem hd_draws {t : XT} {z : Nat} {p1 : Int32} (h : hd t z) : ∃ k, wqX11_draws k t p1 (fun _ t' => hd t' z) := by
  obtain ⟨m, hI, hS⟩ := id h
  obtain ⟨L, hL⟩ : ∃ L, L = 100000 := ⟨_, rfl⟩
  have w : wqX11_draws L t p1 (fun _ t' => hx_inv t' (nI z) m) := hz_draws hI (by omega) (fun r t' i => i)
  exact ⟨L, wcX11_draws hc_kp hS w (fun r t' i s => ⟨m, i, s⟩)⟩
theorem hd_drawn {t : XT} {z : Nat} {p1 p2 : Int32} (h : hd t z) : ∃ k, wqX11_drawn k t p1 p2 (fun _ t' => hd t' z) := by
  obtain ⟨m, hI, hS⟩ := id h
  obtain ⟨L, hL⟩ : ∃ L, L = 100000 := ⟨_, rfl⟩
  have w : wqX11_drawn L t p1 p2 (fun _ t' => hx_inv t' (nI z) m) := hz_drawn hI (by omega) (fun r t' i => i)
  exact ⟨L, wcX11_drawn hc_kp hS w (fun r t' i s => ⟨m, i, s⟩)⟩
theorem hd_level {t : XT} {z : Nat} {p1 p2 : Int32} (h : hd t z) : ∃ k, wqX11_level k t p1 p2 (fun _ t' => hd t' z) := by
  obtain ⟨m, hI, hS⟩ := id h
  obtain ⟨L, hL⟩ : ∃ L, L = 100000 := ⟨_, rfl⟩
  have w : wqX11_level L t p1 p2 (fun _ t' => hx_inv t' (nI z) m) := hz_level hI (by omega) (fun r t' i => i)
  exact ⟨L, wcX11_level hc_kp hS w (fun r t' i s => ⟨m, i, s⟩)⟩
theorem hd_levelBetti {t : XT} {z : Nat} {p1 p2 : Int32} (h : hd t z) : ∃ k, wqX11_levelBetti k t p1 p2 (fun _ t' => hd t' z) := by
  obtain ⟨m, hI, hS⟩ := id h
  obtain ⟨L, hL⟩ : ∃ L, L = 100000 := ⟨_, rfl⟩
  have w : wqX11_levelBetti L t p1 p2 (fun _ t' => hx_inv t' (nI z) m) := hz_levelBetti hI (by omega) (fun r t' i => i)
  exact ⟨L, wcX11_levelBetti hc_kp hS w (fun r t' i s => ⟨m, i, s⟩)⟩
theorem hd_keep {t : XT} {z : Nat} {p1 : Int32} (h : hd t z) : ∃ k, wqX11_keep k t p1 (fun _ t' => hd t' z) := by
  obtain ⟨m, hI, hS⟩ := id h
  obtain ⟨L, hL⟩ : ∃ L, L = 100000 := ⟨_, rfl⟩
  have w : wqX11_keep L t p1 (fun _ t' => hx_inv t' (nI z) m) := hz_keep hI (by omega) (fun r t' i => i)
  exact ⟨L, wcX11_keep hc_kp hS w (fun r t' i s => ⟨m, i, s⟩)⟩
theorem hd_same {t : XT} {z : Nat} {p1 : Int32} (h : hd t z) : ∃ k, wqX11_same k t p1 (fun _ t' => hd t' z) := by
  obtain ⟨m, hI, hS⟩ := id h
  obtain ⟨L, hL⟩ : ∃ L, L = 100000 := ⟨_, rfl⟩
  exact ⟨L, hz_same (by omega) (fun r => h)⟩
theorem hd_count {t : XT} {z : Nat} {p1 : Int32} (h : hd t z) : ∃ k, wqX11_count k t p1 (fun _ t' => hd t' z) := by
  obtain ⟨m, hI, hS⟩ := id h
  obtain ⟨L, hL⟩ : ∃ L, L = 100000 := ⟨_, rfl⟩
  exact ⟨L, hz_count (by omega) (fun r => h)⟩
theorem hd_complex {t : XT} {z : Nat} (hz : z ≤ 160) (h : hd t z) : ∃ k, wqX11_complex k t  (fun _ t' => hd t' 0) := by
  obtain ⟨m, hI, hS⟩ := id h
  obtain ⟨L, hL⟩ : ∃ L, L = 100000 := ⟨_, rfl⟩
  exact ⟨L, hc_complex hI hS hz (by omega) (fun r m' t' i s => ⟨m', i, s⟩)⟩
theorem hd_end {t : XT} {z : Nat} {p1 : Int32} (hz : z ≤ 160) (h : hd t z) : ∃ k, wqX11_end k t p1 (fun _ t' => (∃ y, y ≤ z ∧ p1 = nI y ∧ hd t' y) ∨ ((∀ y, y ≤ z → p1 ≠ nI y) ∧ hd t' z)) := by
  obtain ⟨m, hI, hS⟩ := id h
  obtain ⟨L, hL⟩ : ∃ L, L = 100000 := ⟨_, rfl⟩
  have w : wqX11_end L t p1 (fun _ t' => (∃ y, y ≤ z ∧ p1 = nI y ∧ hx_inv t' (nI y) m) ∨ ((∀ y, y ≤ z → p1 ≠ nI y) ∧ hx_inv t' (nI z) m)) := hz_end hI hz (by omega) (fun y hy e t' i => Or.inl ⟨y, hy, e, i⟩) (fun q => Or.inr ⟨q, hI⟩)
  refine ⟨L, wcX11_end hc_kp hS w (fun r t' i s => ?_)⟩
  rcases i with ⟨y, a, b, i⟩ | ⟨q, i⟩
  · exact Or.inl ⟨y, a, b, m, i, s⟩
  · exact Or.inr ⟨q, m, i, s⟩
theorem hd_feed {t : XT} {z : Nat} {p1 p2 p3 p4 p5 : Int32} (hz : z ≤ 160) (h : hd t z) : ∃ k, wqX11_feed k t p1 p2 p3 p4 p5 (fun r t' => (z + 20 ≤ 160 ∧ r = nI (z + 20) ∧ hd t' (z + 20)) ∨ (¬ z + 20 ≤ 160 ∧ r = -1 ∧ hd t' z)) := by
  obtain ⟨m, hI, hS⟩ := id h
  obtain ⟨L, hL⟩ : ∃ L, L = 100000 := ⟨_, rfl⟩
  have w : wqX11_feed L t p1 p2 p3 p4 p5 (fun r t' => (z + 20 ≤ 160 ∧ r = nI (z + 20) ∧ hx_inv t' (nI (z + 20)) m) ∨ (¬ z + 20 ≤ 160 ∧ r = -1 ∧ hx_inv t' (nI z) m)) := hz_feed hI hz (by omega) (fun q t' i => Or.inl ⟨q, rfl, i⟩) (fun q => Or.inr ⟨q, rfl, hI⟩)
  refine ⟨L, wcX11_feed hc_kp hS w (fun r t' i s => ?_)⟩
  rcases i with ⟨a, b, i⟩ | ⟨a, b, i⟩
  · exact Or.inl ⟨a, b, m, i, s⟩
  · exact Or.inr ⟨a, b, m, i, s⟩
