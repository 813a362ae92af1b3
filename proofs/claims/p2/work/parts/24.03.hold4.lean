/-! ===== the class: n calls are left: every call keeps what torsion wants ===== -/
def ho_k (n b : Nat) : Prop := b + n * 500000 ≤ 300000000
theorem ho_gen {n b c U T : Nat} (h : b + (n + 1) * U ≤ T) (h2 : c ≤ b + U) : c + n * U ≤ T := by
  rw [Nat.succ_mul] at h; omega
theorem ho_st {n b c : Nat} (h : ho_k (n + 1) b) (h2 : c ≤ b + 500000) : ho_k n c := ho_gen h h2
theorem ho_b {n b x : Nat} (h : ho_k n b) (hx : x ≤ 500000) : b + x < 2147483648 := Nat.lt_of_le_of_lt (Nat.add_le_add (Nat.le_trans (Nat.le_add_right b _) h) hx) (by decide)
theorem ho_b0 {n b : Nat} (h : ho_k n b) : b < 2147483648 := ho_b (x := 0) h (Nat.zero_le _)
def ho (n : Nat) (t : XT) (z : Nat) : Prop := ∃ m, hx_inv t (nI z) m ∧ h5_s t ∧ h6_s t ∧ ∃ b, ho_k n b ∧ hn b t
theorem ho_dn (n : Nat) (t : XT) (z : Nat) (h : ho (n + 1) t z) : ho n t z := by
  obtain ⟨m, a, b, c, d, e, f⟩ := h
  exact ⟨m, a, b, c, d, ho_st e (Nat.le_add_right _ _), f⟩
theorem ho_simplex {t : XT} {n z : Nat} {p1 p2 : Int32} (h : ho (n + 1) t z) : ∃ k, wqX11_simplex k t p1 p2 (fun _ t' => ho n t' z) := by
  obtain ⟨m, hI, hS, h6, b, hb, g⟩ := id h
  obtain ⟨L, hL⟩ : ∃ L, L = 100000 := ⟨_, rfl⟩
  have w : wqX11_simplex L t p1 p2 (fun _ t' => hx_inv t' (nI z) m) := hz_simplex hI (by omega) (fun r t' i => i)
  exact ⟨300 + L, ncX11_simplex (Nat.le_refl 300) (ho_b0 hb) g (wgX11_simplex h6_kp h6 (wgX11_simplex h5_kp hS w)) (fun r t' i g' => ⟨m, i.1.1, i.1.2, i.2, _, ho_st hb (by omega), g'⟩)⟩
theorem ho_number {t : XT} {n z : Nat} {p1 : Int32} (h : ho (n + 1) t z) : ∃ k, wqX11_number k t p1 (fun _ t' => ho n t' z) := by
  obtain ⟨m, hI, hS, h6, b, hb, g⟩ := id h
  obtain ⟨L, hL⟩ : ∃ L, L = 100000 := ⟨_, rfl⟩
  exact ⟨L, hz_number (by omega) (fun r => ho_dn n t z h)⟩
theorem ho_sign {t : XT} {n z : Nat} {p1 p2 : Int32} (h : ho (n + 1) t z) : ∃ k, wqX11_sign k t p1 p2 (fun _ t' => ho n t' z) := by
  obtain ⟨m, hI, hS, h6, b, hb, g⟩ := id h
  obtain ⟨L, hL⟩ : ∃ L, L = 100000 := ⟨_, rfl⟩
  exact ⟨L, hz_sign hI (by omega) (fun r => ho_dn n t z h)⟩
theorem ho_pair {t : XT} {n z : Nat} {p1 p2 : Int32} (h : ho (n + 1) t z) : ∃ k, wqX11_pair k t p1 p2 (fun _ t' => ho n t' z) := by
  obtain ⟨m, hI, hS, h6, b, hb, g⟩ := id h
  obtain ⟨L, hL⟩ : ∃ L, L = 100000 := ⟨_, rfl⟩
  have w : wqX11_pair L t p1 p2 (fun _ t' => hx_inv t' (nI z) m) := hz_pair hI (by omega) (fun r t' i => i)
  exact ⟨300 + L, ncX11_pair (Nat.le_refl 300) (ho_b hb (by omega)) g (wgX11_pair h6_kp h6 (wgX11_pair h5_kp hS w)) (fun r t' i g' => ⟨m, i.1.1, i.1.2, i.2, _, ho_st hb (by omega), g'⟩)⟩
theorem ho_part {t : XT} {n z : Nat} {p1 : Int32} (h : ho (n + 1) t z) : ∃ k, wqX11_part k t p1 (fun _ t' => ho n t' z) := by
  obtain ⟨m, hI, hS, h6, b, hb, g⟩ := id h
  obtain ⟨L, hL⟩ : ∃ L, L = 100000 := ⟨_, rfl⟩
  have w : wqX11_part L t p1 (fun _ t' => hx_inv t' (nI z) m) := hz_part hI (by omega) (fun r t' i => i)
  exact ⟨300 + L, ncX11_part (Nat.le_refl 300) (ho_b hb (by omega)) g (wgX11_part h6_kp h6 (wgX11_part h5_kp hS w)) (fun r t' i g' => ⟨m, i.1.1, i.1.2, i.2, _, ho_st hb (by omega), g'⟩)⟩
theorem ho_auto {t : XT} {n z : Nat} {p1 : Int32} (h : ho (n + 1) t z) : ∃ k, wqX11_auto k t p1 (fun _ t' => ho n t' z) := by
  obtain ⟨m, hI, hS, h6, b, hb, g⟩ := id h
  obtain ⟨L, hL⟩ : ∃ L, L = 100000 := ⟨_, rfl⟩
  have w : wqX11_auto L t p1 (fun _ t' => hx_inv t' (nI z) m) := hz_auto hI (by omega) (fun r t' i => i)
  exact ⟨300 + L, ncX11_auto (Nat.le_refl 300) (ho_b hb (by omega)) g (wgX11_auto h6_kp h6 (wgX11_auto h5_kp hS w)) (fun r t' i g' => ⟨m, i.1.1, i.1.2, i.2, _, ho_st hb (by omega), g'⟩)⟩
theorem ho_cancel {t : XT} {n z : Nat} {p1 p2 : Int32} (h : ho (n + 1) t z) : ∃ k, wqX11_cancel k t p1 p2 (fun _ t' => ho n t' z) := by
  obtain ⟨m, hI, hS, h6, b, hb, g⟩ := id h
  obtain ⟨L, hL⟩ : ∃ L, L = 100000 := ⟨_, rfl⟩
  have w : wqX11_cancel L t p1 p2 (fun _ t' => hx_inv t' (nI z) m) := hz_cancel hI (by omega) (fun r t' i => i)
  exact ⟨300 + L, ncX11_cancel (Nat.le_refl 300) (ho_b hb (by omega)) g (wgX11_cancel h6_kp h6 (wgX11_cancel h5_kp hS w)) (fun r t' i g' => ⟨m, i.1.1, i.1.2, i.2, _, ho_st hb (by omega), g'⟩)⟩
theorem ho_collapse {t : XT} {n z : Nat} {p1 : Int32} (h : ho (n + 1) t z) : ∃ k, wqX11_collapse k t p1 (fun _ t' => ho n t' z) := by
  obtain ⟨m, hI, hS, h6, b, hb, g⟩ := id h
  obtain ⟨L, hL⟩ : ∃ L, L = 100000 := ⟨_, rfl⟩
  have w : wqX11_collapse L t p1 (fun _ t' => hx_inv t' (nI z) m) := hz_collapse hI (by omega) (fun r t' i => i)
  exact ⟨300 + L, ncX11_collapse (Nat.le_refl 300) (ho_b hb (by omega)) g (wgX11_collapse h6_kp h6 (wgX11_collapse h5_kp hS w)) (fun r t' i g' => ⟨m, i.1.1, i.1.2, i.2, _, ho_st hb (by omega), g'⟩)⟩
theorem ho_undo {t : XT} {n z : Nat} (h : ho (n + 1) t z) : ∃ k, wqX11_undo k t  (fun _ t' => ho n t' z) := by
  obtain ⟨m, hI, hS, h6, b, hb, g⟩ := id h
  obtain ⟨L, hL⟩ : ∃ L, L = 100000 := ⟨_, rfl⟩
  have w : wqX11_undo L t  (fun _ t' => hx_inv t' (nI z) m) := hz_undo hI (by omega) (fun r t' i => i)
  exact ⟨300 + L, ncX11_undo (Nat.le_refl 300) (ho_b hb (by omega)) g (wgX11_undo h6_kp h6 (wgX11_undo h5_kp hS w)) (fun r t' i g' => ⟨m, i.1.1, i.1.2, i.2, _, ho_st hb (by omega), g'⟩)⟩
theorem ho_critical {t : XT} {n z : Nat} {p1 p2 : Int32} (h : ho (n + 1) t z) : ∃ k, wqX11_critical k t p1 p2 (fun _ t' => ho n t' z) := by
  obtain ⟨m, hI, hS, h6, b, hb, g⟩ := id h
  obtain ⟨L, hL⟩ : ∃ L, L = 100000 := ⟨_, rfl⟩
  exact ⟨L, hz_critical (by omega) (fun r => ho_dn n t z h)⟩
theorem ho_paths {t : XT} {n z : Nat} {p1 p2 : Int32} (h : ho (n + 1) t z) : ∃ k, wqX11_paths k t p1 p2 (fun _ t' => ho n t' z) := by
  obtain ⟨m, hI, hS, h6, b, hb, g⟩ := id h
  obtain ⟨L, hL⟩ : ∃ L, L = 100000 := ⟨_, rfl⟩
  have w : wqX11_paths L t p1 p2 (fun _ t' => hx_inv t' (nI z) m) := hz_paths hI (by omega) (fun r t' i => i)
  exact ⟨300 + L, ncX11_paths (Nat.le_refl 300) (ho_b0 hb) g (wgX11_paths h6_kp h6 (wgX11_paths h5_kp hS w)) (fun r t' i g' => ⟨m, i.1.1, i.1.2, i.2, _, ho_st hb (by omega), g'⟩)⟩
theorem ho_path {t : XT} {n z : Nat} {p1 p2 p3 p4 : Int32} (h : ho (n + 1) t z) : ∃ k, wqX11_path k t p1 p2 p3 p4 (fun _ t' => ho n t' z) := by
  obtain ⟨m, hI, hS, h6, b, hb, g⟩ := id h
  obtain ⟨L, hL⟩ : ∃ L, L = 100000 := ⟨_, rfl⟩
  have w : wqX11_path L t p1 p2 p3 p4 (fun _ t' => hx_inv t' (nI z) m) := hz_path hI (by omega) (fun r t' i => i)
  exact ⟨300 + L, ncX11_path (Nat.le_refl 300) (ho_b0 hb) g (wgX11_path h6_kp h6 (wgX11_path h5_kp hS w)) (fun r t' i g' => ⟨m, i.1.1, i.1.2, i.2, _, ho_st hb (by omega), g'⟩)⟩
theorem ho_incidence {t : XT} {n z : Nat} {p1 p2 : Int32} (h : ho (n + 1) t z) : ∃ k, wqX11_incidence k t p1 p2 (fun _ t' => ho n t' z) := by
  obtain ⟨m, hI, hS, h6, b, hb, g⟩ := id h
  obtain ⟨L, hL⟩ : ∃ L, L = 100000 := ⟨_, rfl⟩
  have w : wqX11_incidence L t p1 p2 (fun _ t' => hx_inv t' (nI z) m) := hz_incidence hI (by omega) (fun r t' i => i)
  exact ⟨300 + L, ncX11_incidence (Nat.le_refl 300) (ho_b0 hb) g (wgX11_incidence h6_kp h6 (wgX11_incidence h5_kp hS w)) (fun r t' i g' => ⟨m, i.1.1, i.1.2, i.2, _, ho_st hb (by omega), g'⟩)⟩
theorem ho_chain {t : XT} {n z : Nat} {p1 p2 : Int32} (h : ho (n + 1) t z) : ∃ k, wqX11_chain k t p1 p2 (fun _ t' => ho n t' z) := by
  obtain ⟨m, hI, hS, h6, b, hb, g⟩ := id h
  obtain ⟨L, hL⟩ : ∃ L, L = 100000 := ⟨_, rfl⟩
  have w : wqX11_chain L t p1 p2 (fun _ t' => hx_inv t' (nI z) m) := hz_chain hI (by omega) (fun r t' i => i)
  exact ⟨300 + L, ncX11_chain (Nat.le_refl 300) (ho_b0 hb) g (wgX11_chain h6_kp h6 (wgX11_chain h5_kp hS w)) (fun r t' i g' => ⟨m, i.1.1, i.1.2, i.2, _, ho_st hb (by omega), g'⟩)⟩
theorem ho_root {t : XT} {n z : Nat} {p1 p2 : Int32} (h : ho (n + 1) t z) : ∃ k, wqX11_root k t p1 p2 (fun _ t' => ho n t' z) := by
  obtain ⟨m, hI, hS, h6, b, hb, g⟩ := id h
  obtain ⟨L, hL⟩ : ∃ L, L = 100000 := ⟨_, rfl⟩
  exact ⟨L, hz_root hI (by omega) (fun r => ho_dn n t z h)⟩
theorem ho_through {t : XT} {n z : Nat} {p1 p2 p3 : Int32} (h : ho (n + 1) t z) : ∃ k, wqX11_through k t p1 p2 p3 (fun _ t' => ho n t' z) := by
  obtain ⟨m, hI, hS, h6, b, hb, g⟩ := id h
  obtain ⟨L, hL⟩ : ∃ L, L = 100000 := ⟨_, rfl⟩
  have w : wqX11_through L t p1 p2 p3 (fun _ t' => hx_inv t' (nI z) m) := hz_through hI (by omega) (fun r t' i => i)
  exact ⟨300 + L, ncX11_through (Nat.le_refl 300) (ho_b0 hb) g (wgX11_through h6_kp h6 (wgX11_through h5_kp hS w)) (fun r t' i g' => ⟨m, i.1.1, i.1.2, i.2, _, ho_st hb (by omega), g'⟩)⟩
theorem ho_squares {t : XT} {n z : Nat} (h : ho (n + 1) t z) : ∃ k, wqX11_squares k t  (fun _ t' => ho n t' z) := by
  obtain ⟨m, hI, hS, h6, b, hb, g⟩ := id h
  obtain ⟨L, hL⟩ : ∃ L, L = 100000 := ⟨_, rfl⟩
  have w : wqX11_squares L t  (fun _ t' => hx_inv t' (nI z) m) := hz_squares hI (by omega) (fun r t' i => i)
  exact ⟨300 + L, ncX11_squares (Nat.le_refl 300) (ho_b0 hb) g (wgX11_squares h6_kp h6 (wgX11_squares h5_kp hS w)) (fun r t' i g' => ⟨m, i.1.1, i.1.2, i.2, _, ho_st hb (by omega), g'⟩)⟩
theorem ho_betti {t : XT} {n z : Nat} {p1 p2 : Int32} (h : ho (n + 1) t z) : ∃ k, wqX11_betti k t p1 p2 (fun _ t' => ho n t' z) := by
  obtain ⟨m, hI, hS, h6, b, hb, g⟩ := id h
  obtain ⟨L, hL⟩ : ∃ L, L = 100000 := ⟨_, rfl⟩
  have w : wqX11_betti L t p1 p2 (fun _ t' => hx_inv t' (nI z) m) := hz_betti hI (by omega) (fun r t' i => i)
  exact ⟨300 + L, ncX11_betti (Nat.le_refl 300) (ho_b0 hb) g (wgX11_betti h6_kp h6 (wgX11_betti h5_kp hS w)) (fun r t' i g' => ⟨m, i.1.1, i.1.2, i.2, _, ho_st hb (by omega), g'⟩)⟩
theorem ho_slack {t : XT} {n z : Nat} {p1 : Int32} (h : ho (n + 1) t z) : ∃ k, wqX11_slack k t p1 (fun _ t' => ho n t' z) := by
  obtain ⟨m, hI, hS, h6, b, hb, g⟩ := id h
  obtain ⟨L, hL⟩ : ∃ L, L = 100000 := ⟨_, rfl⟩
  have w : wqX11_slack L t p1 (fun _ t' => hx_inv t' (nI z) m) := hz_slack hI (by omega) (fun r t' i => i)
  exact ⟨300 + L, ncX11_slack (Nat.le_refl 300) (ho_b0 hb) g (wgX11_slack h6_kp h6 (wgX11_slack h5_kp hS w)) (fun r t' i g' => ⟨m, i.1.1, i.1.2, i.2, _, ho_st hb (by omega), g'⟩)⟩
theorem ho_free {t : XT} {n z : Nat} {p1 : Int32} (h : ho (n + 1) t z) : ∃ k, wqX11_free k t p1 (fun _ t' => ho n t' z) := by
  obtain ⟨m, hI, hS, h6, b, hb, g⟩ := id h
  obtain ⟨L, hL⟩ : ∃ L, L = 100000 := ⟨_, rfl⟩
  exact ⟨L, hz_freeCall hI (by omega) (fun r => ho_dn n t z h)⟩
theorem ho_facet {t : XT} {n z : Nat} {p1 : Int32} (h : ho (n + 1) t z) : ∃ k, wqX11_facet k t p1 (fun _ t' => ho n t' z) := by
  obtain ⟨m, hI, hS, h6, b, hb, g⟩ := id h
  obtain ⟨L, hL⟩ : ∃ L, L = 100000 := ⟨_, rfl⟩
  exact ⟨L, hz_facet hI (by omega) (fun r => ho_dn n t z h)⟩
theorem ho_link {t : XT} {n z : Nat} {p1 p2 : Int32} (h : ho (n + 1) t z) : ∃ k, wqX11_link k t p1 p2 (fun _ t' => ho n t' z) := by
  obtain ⟨m, hI, hS, h6, b, hb, g⟩ := id h
  obtain ⟨L, hL⟩ : ∃ L, L = 100000 := ⟨_, rfl⟩
  exact ⟨L, hz_link hI (by omega) (fun r => ho_dn n t z h)⟩
theorem ho_room {t : XT} {n z : Nat} {p1 : Int32} (h : ho (n + 1) t z) : ∃ k, wqX11_room k t p1 (fun _ t' => ho n t' z) := by
  obtain ⟨m, hI, hS, h6, b, hb, g⟩ := id h
  obtain ⟨L, hL⟩ : ∃ L, L = 100000 := ⟨_, rfl⟩
  exact ⟨L, hz_room hI (by omega) (fun r => ho_dn n t z h)⟩
theorem ho_draws {t : XT} {n z : Nat} {p1 : Int32} (h : ho (n + 1) t z) : ∃ k, wqX11_draws k t p1 (fun _ t' => ho n t' z) := by
  obtain ⟨m, hI, hS, h6, b, hb, g⟩ := id h
  obtain ⟨L, hL⟩ : ∃ L, L = 100000 := ⟨_, rfl⟩
  have w : wqX11_draws L t p1 (fun _ t' => hx_inv t' (nI z) m) := hz_draws hI (by omega) (fun r t' i => i)
  exact ⟨300 + L, ncX11_draws (Nat.le_refl 300) (ho_b0 hb) g (wgX11_draws h6_kp h6 (wgX11_draws h5_kp hS w)) (fun r t' i g' => ⟨m, i.1.1, i.1.2, i.2, _, ho_st hb (by omega), g'⟩)⟩
theorem ho_drawn {t : XT} {n z : Nat} {p1 p2 : Int32} (h : ho (n + 1) t z) : ∃ k, wqX11_drawn k t p1 p2 (fun _ t' => ho n t' z) := by
  obtain ⟨m, hI, hS, h6, b, hb, g⟩ := id h
  obtain ⟨L, hL⟩ : ∃ L, L = 100000 := ⟨_, rfl⟩
  have w : wqX11_drawn L t p1 p2 (fun _ t' => hx_inv t' (nI z) m) := hz_drawn hI (by omega) (fun r t' i => i)
  exact ⟨300 + L, ncX11_drawn (Nat.le_refl 300) (ho_b0 hb) g (wgX11_drawn h6_kp h6 (wgX11_drawn h5_kp hS w)) (fun r t' i g' => ⟨m, i.1.1, i.1.2, i.2, _, ho_st hb (by omega), g'⟩)⟩
theorem ho_level {t : XT} {n z : Nat} {p1 p2 : Int32} (h : ho (n + 1) t z) : ∃ k, wqX11_level k t p1 p2 (fun _ t' => ho n t' z) := by
  obtain ⟨m, hI, hS, h6, b, hb, g⟩ := id h
  obtain ⟨L, hL⟩ : ∃ L, L = 100000 := ⟨_, rfl⟩
  have w : wqX11_level L t p1 p2 (fun _ t' => hx_inv t' (nI z) m) := hz_level hI (by omega) (fun r t' i => i)
  exact ⟨300 + L, ncX11_level (Nat.le_refl 300) (ho_b0 hb) g (wgX11_level h6_kp h6 (wgX11_level h5_kp hS w)) (fun r t' i g' => ⟨m, i.1.1, i.1.2, i.2, _, ho_st hb (by omega), g'⟩)⟩
theorem ho_levelBetti {t : XT} {n z : Nat} {p1 p2 : Int32} (h : ho (n + 1) t z) : ∃ k, wqX11_levelBetti k t p1 p2 (fun _ t' => ho n t' z) := by
  obtain ⟨m, hI, hS, h6, b, hb, g⟩ := id h
  obtain ⟨L, hL⟩ : ∃ L, L = 100000 := ⟨_, rfl⟩
  have w : wqX11_levelBetti L t p1 p2 (fun _ t' => hx_inv t' (nI z) m) := hz_levelBetti hI (by omega) (fun r t' i => i)
  exact ⟨300 + L, ncX11_levelBetti (Nat.le_refl 300) (ho_b0 hb) g (wgX11_levelBetti h6_kp h6 (wgX11_levelBetti h5_kp hS w)) (fun r t' i g' => ⟨m, i.1.1, i.1.2, i.2, _, ho_st hb (by omega), g'⟩)⟩
theorem ho_keep {t : XT} {n z : Nat} {p1 : Int32} (h : ho (n + 1) t z) : ∃ k, wqX11_keep k t p1 (fun _ t' => ho n t' z) := by
  obtain ⟨m, hI, hS, h6, b, hb, g⟩ := id h
  obtain ⟨L, hL⟩ : ∃ L, L = 100000 := ⟨_, rfl⟩
  have w : wqX11_keep L t p1 (fun _ t' => hx_inv t' (nI z) m) := hz_keep hI (by omega) (fun r t' i => i)
  exact ⟨300 + L, ncX11_keep (Nat.le_refl 300) (ho_b0 hb) g (wgX11_keep h6_kp h6 (wgX11_keep h5_kp hS w)) (fun r t' i g' => ⟨m, i.1.1, i.1.2, i.2, _, ho_st hb (by omega), g'⟩)⟩
theorem ho_same {t : XT} {n z : Nat} {p1 : Int32} (h : ho (n + 1) t z) : ∃ k, wqX11_same k t p1 (fun _ t' => ho n t' z) := by
  obtain ⟨m, hI, hS, h6, b, hb, g⟩ := id h
  obtain ⟨L, hL⟩ : ∃ L, L = 100000 := ⟨_, rfl⟩
  exact ⟨L, hz_same (by omega) (fun r => ho_dn n t z h)⟩
theorem ho_count {t : XT} {n z : Nat} {p1 : Int32} (h : ho (n + 1) t z) : ∃ k, wqX11_count k t p1 (fun _ t' => ho n t' z) := by
  obtain ⟨m, hI, hS, h6, b, hb, g⟩ := id h
  obtain ⟨L, hL⟩ : ∃ L, L = 100000 := ⟨_, rfl⟩
  exact ⟨L, hz_count (by omega) (fun r => ho_dn n t z h)⟩
theorem ho_complex {t : XT} {n z : Nat} (hz : z ≤ 160) (h : ho (n + 1) t z) : ∃ k, wqX11_complex k t  (fun _ t' => ho n t' 0) := by
  obtain ⟨m, hI, hS, h6, b, hb, g⟩ := id h
  obtain ⟨h, hh⟩ : ∃ h, h = 300 := ⟨_, rfl⟩
  obtain ⟨L, hL⟩ : ∃ L, L = 100000 := ⟨_, rfl⟩
  exact ⟨h + L, hk_complex (by omega) hI hS h6 g (ho_b hb (by omega)) hz (by omega) (fun r m' t' i s s' g' => ⟨m', i, s, s', b + 1, ho_st hb (by omega), g'⟩)⟩
theorem ho_end {t : XT} {n z : Nat} {p1 : Int32} (hz : z ≤ 160) (h : ho (n + 1) t z) : ∃ k, wqX11_end k t p1 (fun _ t' => (∃ y, y ≤ z ∧ p1 = nI y ∧ ho n t' y) ∨ ((∀ y, y ≤ z → p1 ≠ nI y) ∧ ho n t' z)) := by
  obtain ⟨m, hI, hS, h6, b, hb, g⟩ := id h
  obtain ⟨L, hL⟩ : ∃ L, L = 100000 := ⟨_, rfl⟩
  have w : wqX11_end L t p1 (fun _ t' => (∃ y, y ≤ z ∧ p1 = nI y ∧ hx_inv t' (nI y) m) ∨ ((∀ y, y ≤ z → p1 ≠ nI y) ∧ hx_inv t' (nI z) m)) := hz_end hI hz (by omega) (fun y hy e t' i => Or.inl ⟨y, hy, e, i⟩) (fun q => Or.inr ⟨q, hI⟩)
  refine ⟨300 + L, ncX11_end (Nat.le_refl 300) (ho_b0 hb) g (wgX11_end h6_kp h6 (wgX11_end h5_kp hS w)) (fun r t' i g' => ?_)⟩
  obtain ⟨⟨i, s⟩, s'⟩ := i
  rcases i with ⟨y, a, b, i⟩ | ⟨q, i⟩
  · exact Or.inl ⟨y, a, b, m, i, s, s', _, ho_st hb (by omega), g'⟩
  · exact Or.inr ⟨q, m, i, s, s', _, ho_st hb (by omega), g'⟩
theorem ho_feed {t : XT} {n z : Nat} {p1 p2 p3 p4 p5 : Int32} (hz : z ≤ 160) (h : ho (n + 1) t z) : ∃ k, wqX11_feed k t p1 p2 p3 p4 p5 (fun r t' => (z + 20 ≤ 160 ∧ r = nI (z + 20) ∧ ho n t' (z + 20)) ∨ (¬ z + 20 ≤ 160 ∧ r = -1 ∧ ho n t' z)) := by
  obtain ⟨m, hI, hS, h6, b, hb, g⟩ := id h
  obtain ⟨L, hL⟩ : ∃ L, L = 100000 := ⟨_, rfl⟩
  have w : wqX11_feed L t p1 p2 p3 p4 p5 (fun r t' => (z + 20 ≤ 160 ∧ r = nI (z + 20) ∧ hx_inv t' (nI (z + 20)) m) ∨ (¬ z + 20 ≤ 160 ∧ r = -1 ∧ hx_inv t' (nI z) m)) := hz_feed hI hz (by omega) (fun q t' i => Or.inl ⟨q, rfl, i⟩) (fun q => Or.inr ⟨q, rfl, hI⟩)
  refine ⟨300 + L, ncX11_feed (Nat.le_refl 300) (ho_b0 hb) g (wgX11_feed h6_kp h6 (wgX11_feed h5_kp hS w)) (fun r t' i g' => ?_)⟩
  obtain ⟨⟨i, s⟩, s'⟩ := i
  rcases i with ⟨a, b, i⟩ | ⟨a, b, i⟩
  · exact Or.inl ⟨a, b, m, i, s, s', _, ho_st hb (by omega), g'⟩
  · exact Or.inr ⟨a, b, m, i, s, s', _, ho_st hb (by omega), g'⟩
