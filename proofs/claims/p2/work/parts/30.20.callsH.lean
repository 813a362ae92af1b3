/-! ===== the class: every call keeps what HEIGHTS are ===== -/
/-- behind build and restart -/
theorem hK_complex {t : XT} {y m b h K : Nat} {Q : Int32 → XT → Prop} (hh : 300 ≤ h) (hI : hx_inv t (nI y) m) (hS : h5_s t) (h6 : h6_s t) (g : hN b t) (hb' : b + 1 < 2147483648) (hy : y ≤ 160) (hK : 5000 ≤ K) (hQ : ∀ r m' t', hx_inv t' (nI 0) m' → h5_s t' → h6_s t' → hN (b + 1) t' → Q r t') : wqX11_complex (h + K) t Q := by
  obtain ⟨K, rfl⟩ : ∃ K', K = K' + 1 := ⟨K - 1, by omega⟩
  show wbX11_complex_0 (wpX11_complex (h + K)) (h + K) t (fun _ => 0) (fun _ => 0) Q
  have rd : wqX8_read_c1 K t (fun _ t1 => ∃ p1, hx_rc t1 y m p1) := hy_read hI hy (by omega) (fun r1 p1 t1 h1 => ⟨p1, h1⟩)
  refine ndX8_read_c1 hh (by omega) g (wgX8_read_c1 h6_kp h6 (wgX8_read_c1 h5_kp hS rd)) (fun r1 t1 h1 g1 t2 e2 => ?_)
  obtain ⟨⟨⟨p1, h1, c1⟩, s1⟩, s1'⟩ := h1
  have h2 : hx_inv t2 (nI 0) m := by
    obtain ⟨a1, a2, a3, a4, a5, a6, a7, a8, a9, a10, a11⟩ := h1.1
    subst e2
    exact ⟨rfl, a2, a3, a4, a5, a6, a7, a8, a9, a10, a11⟩
  have s2 : h5_s t2 := by rw [e2]; exact h5_kp.1 _ _ _ (by decide) s1
  have s2' : h6_s t2 := by rw [e2]; exact h6_kp.1 _ _ _ (by decide) s1'
  have g2 : hN b t2 := by rw [e2]; exact hN_I (by decide) (by decide) (by decide) (by decide) g1
  have c2 : hx_cl (t2.2.2.1 1) := by rw [e2]; exact c1
  obtain ⟨_, _, c, cb, cc, ca⟩ := id g2
  refine ⟨fun _ => ?_, fun _ v9 _ => hQ v9 m t2 h2 s2 s2' (hN_mono (by omega) g2)⟩
  have bA : wqX9_build_c13 (h + K) t2 (fun t' => ∃ m', hx_inv t' (nI 0) m' ∧ h5_s t') := h5_build h2 c2 (by omega) (fun m' t' i s => ⟨m', i, s⟩)
  have bB : wqX9_build_c13 (h + K) t2 (fun t' => ∃ m', hx_inv t' (nI 0) m' ∧ h6_b t' m') := h6_build h2 (by omega) (fun m' t' i s => ⟨m', i, s⟩)
  have k5 : kp5 (fun u => u.1 5 = t2.1 5 ∧ u.1 7 = t2.1 7) := ⟨fun u i v h5 h7 w => ⟨(ht_nI u i v h5.symm).trans w.1, (ht_nI u i v h7.symm).trans w.2⟩, fun _ _ _ w => w, fun _ _ _ w => w, fun _ _ _ w => w⟩
  refine wvX9_build_c13 k5 ⟨rfl, rfl⟩ (wjX9_build_c13 bA bB) (fun t4 hAB g45 => ?_)
  obtain ⟨⟨m4, h4, b4⟩, m4', h4', b4'⟩ := hAB
  have s4 := h6_s_b h4' b4'
  refine hz_all (by omega) (fun v => ?_)
  obtain ⟨K, rfl⟩ : ∃ K', K = K' + 1 := ⟨K - 1, by omega⟩
  show wbX6_restart_0 (wpX6_restart (h + K)) (h + K) t4 (fun _ => 0) (uI (fun _ => 0) 1 v) _
  intro u1 f1 u2 f2 u3 f3 u4 f4 v5 f5 u6 f6 t7 e7
  show wbX4_forget_0 (wpX4_forget (h + K)) (h + K) t7 (fun _ => 0) (fun _ => 0) _
  intro t8 e8
  have f6 : u6 = sI u4 5 v5 := f6
  have f5 : v5 = u4.1 5 + 1 := f5
  have f4 : u4 = sJ u3 2 0 := f4
  have f3 : u3 = sJ u2 1 0 := f3
  have f2 : u2 = sJ u1 0 v := f2
  have f1 : u1 = sA t4 5 (fun _ => -1) := f1
  have e8 : t8 = sJ t7 6 0 := e8
  have e7 : t7 = sI u6 8 0 := e7
  subst e8 e7 f6 f5 f4 f3 f2 f1
  refine hQ _ m4 _ (hx_frame h4 rfl rfl rfl rfl rfl rfl (fun _ _ => Or.inl rfl) rfl rfl rfl rfl) ?_ ?_ ?_
  · exact h5_kp.2.1 _ _ _ (h5_kp.1 _ _ _ (by decide) (h5_kp.1 _ _ _ (by decide) (h5_kp.2.1 _ _ _ (h5_kp.2.1 _ _ _ (h5_kp.2.1 _ _ _ (h5_kp.2.2.1 _ _ _ (by decide) (by decide) (by decide) b4))))))
  · exact h6_kp.2.1 _ _ _ (h6_kp.1 _ _ _ (by decide) (h6_kp.1 _ _ _ (by decide) (h6_kp.2.1 _ _ _ (h6_kp.2.1 _ _ _ (h6_kp.2.1 _ _ _ (h6_kp.2.2.1 _ _ _ (by decide) (by decide) (by decide) s4))))))
  · refine ⟨⟨m4, h4.2.1, h4.2.2.1, fun _ _ => Or.inl rfl⟩, fun _ _ => Or.inl rfl, c + 1, by omega, ?_, ?_⟩
    · show t4.1 5 + 1 = nI (c + 1)
      rw [g45.1, cc]; exact nI_1 c
    · show t4.1 7 = -1 ∨ ∃ a, a ≤ c + 1 ∧ t4.1 7 = nI a ∧ (a = c + 1 → _)
      rw [g45.2]
      rcases ca with z | ⟨a, q1, q2, q3⟩
      · exact Or.inl z
      · exact Or.inr ⟨a, by omega, q2, fun e => absurd e (by omega)⟩
def hNk (n : Nat) (t : XT) : Prop := ∃ b, ho_k n b ∧ hN b t
theorem hNk_dn (n : Nat) (t : XT) (h : hNk (n + 1) t) : hNk n t := by
  obtain ⟨b, hb, g⟩ := h
  exact ⟨b, ho_st hb (Nat.le_add_right _ _), g⟩
theorem hg_simplex {t : XT} {n z : Nat} {p1 p2 : Int32} (hz : z ≤ 160) (h : ho (n + 1) t z) (g : hNk (n + 1) t) : ∃ k, wqX11_simplex k t p1 p2 (fun _ t' => hNk n t') := by
  obtain ⟨k, w⟩ := ho_simplex (p1 := p1) (p2 := p2) h
  obtain ⟨b, hb, g⟩ := g
  exact ⟨300 + k, ndX11_simplex (Nat.le_refl 300) (ho_b0 hb) g w (fun _ t' _ g' => ⟨b, ho_st hb (Nat.le_add_right _ _), g'⟩)⟩
theorem hg_number {t : XT} {n z : Nat} {p1 : Int32} (hz : z ≤ 160) (h : ho (n + 1) t z) (g : hNk (n + 1) t) : ∃ k, wqX11_number k t p1 (fun _ t' => hNk n t') := by
  obtain ⟨k, w⟩ := ho_number (p1 := p1) h
  obtain ⟨b, hb, g⟩ := g
  exact ⟨300 + k, ndX11_number (Nat.le_refl 300) (ho_b0 hb) g w (fun _ t' _ g' => ⟨b, ho_st hb (Nat.le_add_right _ _), g'⟩)⟩
theorem hg_sign {t : XT} {n z : Nat} {p1 p2 : Int32} (hz : z ≤ 160) (h : ho (n + 1) t z) (g : hNk (n + 1) t) : ∃ k, wqX11_sign k t p1 p2 (fun _ t' => hNk n t') := by
  obtain ⟨k, w⟩ := ho_sign (p1 := p1) (p2 := p2) h
  obtain ⟨b, hb, g⟩ := g
  exact ⟨300 + k, ndX11_sign (Nat.le_refl 300) (ho_b0 hb) g w (fun _ t' _ g' => ⟨b, ho_st hb (Nat.le_add_right _ _), g'⟩)⟩
theorem hg_pair {t : XT} {n z : Nat} {p1 p2 : Int32} (hz : z ≤ 160) (h : ho (n + 1) t z) (g : hNk (n + 1) t) : ∃ k, wqX11_pair k t p1 p2 (fun _ t' => hNk n t') := by
  obtain ⟨m, hI, _⟩ := h
  obtain ⟨b, hb, g⟩ := g
  obtain ⟨L, hL⟩ : ∃ L, L = 100000 := ⟨_, rfl⟩
  have w : wqX11_pair L t p1 p2 (fun _ t' => hx_inv t' (nI z) m) := hz_pair hI (by omega) (fun r t' i => i)
  exact ⟨300 + L, ndX11_pair (Nat.le_refl 300) (ho_b hb (by omega)) g w (fun r t' i g' => ⟨_, ho_st hb (by omega), g'⟩)⟩
theorem hg_part {t : XT} {n z : Nat} {p1 : Int32} (hz : z ≤ 160) (h : ho (n + 1) t z) (g : hNk (n + 1) t) : ∃ k, wqX11_part k t p1 (fun _ t' => hNk n t') := by
  obtain ⟨m, hI, _⟩ := h
  obtain ⟨b, hb, g⟩ := g
  obtain ⟨L, hL⟩ : ∃ L, L = 100000 := ⟨_, rfl⟩
  have w : wqX11_part L t p1 (fun _ t' => hx_inv t' (nI z) m) := hz_part hI (by omega) (fun r t' i => i)
  exact ⟨300 + L, ndX11_part (Nat.le_refl 300) (ho_b hb (by omega)) g w (fun r t' i g' => ⟨_, ho_st hb (by omega), g'⟩)⟩
theorem hg_auto {t : XT} {n z : Nat} {p1 : Int32} (hz : z ≤ 160) (h : ho (n + 1) t z) (g : hNk (n + 1) t) : ∃ k, wqX11_auto k t p1 (fun _ t' => hNk n t') := by
  obtain ⟨m, hI, _⟩ := h
  obtain ⟨b, hb, g⟩ := g
  obtain ⟨L, hL⟩ : ∃ L, L = 100000 := ⟨_, rfl⟩
  have w : wqX11_auto L t p1 (fun _ t' => hx_inv t' (nI z) m) := hz_auto hI (by omega) (fun r t' i => i)
  exact ⟨300 + L, ndX11_auto (Nat.le_refl 300) (ho_b hb (by omega)) g w (fun r t' i g' => ⟨_, ho_st hb (by omega), g'⟩)⟩
theorem hg_cancel {t : XT} {n z : Nat} {p1 p2 : Int32} (hz : z ≤ 160) (h : ho (n + 1) t z) (g : hNk (n + 1) t) : ∃ k, wqX11_cancel k t p1 p2 (fun _ t' => hNk n t') := by
  obtain ⟨m, hI, _⟩ := h
  obtain ⟨b, hb, g⟩ := g
  obtain ⟨L, hL⟩ : ∃ L, L = 100000 := ⟨_, rfl⟩
  have w : wqX11_cancel L t p1 p2 (fun _ t' => hx_inv t' (nI z) m) := hz_cancel hI (by omega) (fun r t' i => i)
  exact ⟨300 + L, ndX11_cancel (Nat.le_refl 300) (ho_b hb (by omega)) g w (fun r t' i g' => ⟨_, ho_st hb (by omega), g'⟩)⟩
theorem hg_collapse {t : XT} {n z : Nat} {p1 : Int32} (hz : z ≤ 160) (h : ho (n + 1) t z) (g : hNk (n + 1) t) : ∃ k, wqX11_collapse k t p1 (fun _ t' => hNk n t') := by
  obtain ⟨m, hI, _⟩ := h
  obtain ⟨b, hb, g⟩ := g
  obtain ⟨L, hL⟩ : ∃ L, L = 100000 := ⟨_, rfl⟩
  have w : wqX11_collapse L t p1 (fun _ t' => hx_inv t' (nI z) m) := hz_collapse hI (by omega) (fun r t' i => i)
  exact ⟨300 + L, ndX11_collapse (Nat.le_refl 300) (ho_b hb (by omega)) g w (fun r t' i g' => ⟨_, ho_st hb (by omega), g'⟩)⟩
theorem hg_undo {t : XT} {n z : Nat} (hz : z ≤ 160) (h : ho (n + 1) t z) (g : hNk (n + 1) t) : ∃ k, wqX11_undo k t  (fun _ t' => hNk n t') := by
  obtain ⟨m, hI, _⟩ := h
  obtain ⟨b, hb, g⟩ := g
  obtain ⟨L, hL⟩ : ∃ L, L = 100000 := ⟨_, rfl⟩
  have w : wqX11_undo L t  (fun _ t' => hx_inv t' (nI z) m) := hz_undo hI (by omega) (fun r t' i => i)
  exact ⟨300 + L, ndX11_undo (Nat.le_refl 300) (ho_b hb (by omega)) g w (fun r t' i g' => ⟨_, ho_st hb (by omega), g'⟩)⟩
theorem hg_critical {t : XT} {n z : Nat} {p1 p2 : Int32} (hz : z ≤ 160) (h : ho (n + 1) t z) (g : hNk (n + 1) t) : ∃ k, wqX11_critical k t p1 p2 (fun _ t' => hNk n t') := by
  obtain ⟨k, w⟩ := ho_critical (p1 := p1) (p2 := p2) h
  obtain ⟨b, hb, g⟩ := g
  exact ⟨300 + k, ndX11_critical (Nat.le_refl 300) (ho_b0 hb) g w (fun _ t' _ g' => ⟨b, ho_st hb (Nat.le_add_right _ _), g'⟩)⟩
theorem hg_paths {t : XT} {n z : Nat} {p1 p2 : Int32} (hz : z ≤ 160) (h : ho (n + 1) t z) (g : hNk (n + 1) t) : ∃ k, wqX11_paths k t p1 p2 (fun _ t' => hNk n t') := by
  obtain ⟨k, w⟩ := ho_paths (p1 := p1) (p2 := p2) h
  obtain ⟨b, hb, g⟩ := g
  exact ⟨300 + k, ndX11_paths (Nat.le_refl 300) (ho_b0 hb) g w (fun _ t' _ g' => ⟨b, ho_st hb (Nat.le_add_right _ _), g'⟩)⟩
theorem hg_path {t : XT} {n z : Nat} {p1 p2 p3 p4 : Int32} (hz : z ≤ 160) (h : ho (n + 1) t z) (g : hNk (n + 1) t) : ∃ k, wqX11_path k t p1 p2 p3 p4 (fun _ t' => hNk n t') := by
  obtain ⟨k, w⟩ := ho_path (p1 := p1) (p2 := p2) (p3 := p3) (p4 := p4) h
  obtain ⟨b, hb, g⟩ := g
  exact ⟨300 + k, ndX11_path (Nat.le_refl 300) (ho_b0 hb) g w (fun _ t' _ g' => ⟨b, ho_st hb (Nat.le_add_right _ _), g'⟩)⟩
theorem hg_incidence {t : XT} {n z : Nat} {p1 p2 : Int32} (hz : z ≤ 160) (h : ho (n + 1) t z) (g : hNk (n + 1) t) : ∃ k, wqX11_incidence k t p1 p2 (fun _ t' => hNk n t') := by
  obtain ⟨k, w⟩ := ho_incidence (p1 := p1) (p2 := p2) h
  obtain ⟨b, hb, g⟩ := g
  exact ⟨300 + k, ndX11_incidence (Nat.le_refl 300) (ho_b0 hb) g w (fun _ t' _ g' => ⟨b, ho_st hb (Nat.le_add_right _ _), g'⟩)⟩
theorem hg_chain {t : XT} {n z : Nat} {p1 p2 : Int32} (hz : z ≤ 160) (h : ho (n + 1) t z) (g : hNk (n + 1) t) : ∃ k, wqX11_chain k t p1 p2 (fun _ t' => hNk n t') := by
  obtain ⟨k, w⟩ := ho_chain (p1 := p1) (p2 := p2) h
  obtain ⟨b, hb, g⟩ := g
  exact ⟨300 + k, ndX11_chain (Nat.le_refl 300) (ho_b0 hb) g w (fun _ t' _ g' => ⟨b, ho_st hb (Nat.le_add_right _ _), g'⟩)⟩
theorem hg_root {t : XT} {n z : Nat} {p1 p2 : Int32} (hz : z ≤ 160) (h : ho (n + 1) t z) (g : hNk (n + 1) t) : ∃ k, wqX11_root k t p1 p2 (fun _ t' => hNk n t') := by
  obtain ⟨k, w⟩ := ho_root (p1 := p1) (p2 := p2) h
  obtain ⟨b, hb, g⟩ := g
  exact ⟨300 + k, ndX11_root (Nat.le_refl 300) (ho_b0 hb) g w (fun _ t' _ g' => ⟨b, ho_st hb (Nat.le_add_right _ _), g'⟩)⟩
theorem hg_through {t : XT} {n z : Nat} {p1 p2 p3 : Int32} (hz : z ≤ 160) (h : ho (n + 1) t z) (g : hNk (n + 1) t) : ∃ k, wqX11_through k t p1 p2 p3 (fun _ t' => hNk n t') := by
  obtain ⟨k, w⟩ := ho_through (p1 := p1) (p2 := p2) (p3 := p3) h
  obtain ⟨b, hb, g⟩ := g
  exact ⟨300 + k, ndX11_through (Nat.le_refl 300) (ho_b0 hb) g w (fun _ t' _ g' => ⟨b, ho_st hb (Nat.le_add_right _ _), g'⟩)⟩
theorem hg_squares {t : XT} {n z : Nat} (hz : z ≤ 160) (h : ho (n + 1) t z) (g : hNk (n + 1) t) : ∃ k, wqX11_squares k t  (fun _ t' => hNk n t') := by
  obtain ⟨k, w⟩ := ho_squares  h
  obtain ⟨b, hb, g⟩ := g
  exact ⟨300 + k, ndX11_squares (Nat.le_refl 300) (ho_b0 hb) g w (fun _ t' _ g' => ⟨b, ho_st hb (Nat.le_add_right _ _), g'⟩)⟩
theorem hg_betti {t : XT} {n z : Nat} {p1 p2 : Int32} (hz : z ≤ 160) (h : ho (n + 1) t z) (g : hNk (n + 1) t) : ∃ k, wqX11_betti k t p1 p2 (fun _ t' => hNk n t') := by
  obtain ⟨k, w⟩ := ho_betti (p1 := p1) (p2 := p2) h
  obtain ⟨b, hb, g⟩ := g
  exact ⟨300 + k, ndX11_betti (Nat.le_refl 300) (ho_b0 hb) g w (fun _ t' _ g' => ⟨b, ho_st hb (Nat.le_add_right _ _), g'⟩)⟩
theorem hg_slack {t : XT} {n z : Nat} {p1 : Int32} (hz : z ≤ 160) (h : ho (n + 1) t z) (g : hNk (n + 1) t) : ∃ k, wqX11_slack k t p1 (fun _ t' => hNk n t') := by
  obtain ⟨k, w⟩ := ho_slack (p1 := p1) h
  obtain ⟨b, hb, g⟩ := g
  exact ⟨300 + k, ndX11_slack (Nat.le_refl 300) (ho_b0 hb) g w (fun _ t' _ g' => ⟨b, ho_st hb (Nat.le_add_right _ _), g'⟩)⟩
theorem hg_free {t : XT} {n z : Nat} {p1 : Int32} (hz : z ≤ 160) (h : ho (n + 1) t z) (g : hNk (n + 1) t) : ∃ k, wqX11_free k t p1 (fun _ t' => hNk n t') := by
  obtain ⟨k, w⟩ := ho_free (p1 := p1) h
  obtain ⟨b, hb, g⟩ := g
  exact ⟨300 + k, ndX11_free (Nat.le_refl 300) (ho_b0 hb) g w (fun _ t' _ g' => ⟨b, ho_st hb (Nat.le_add_right _ _), g'⟩)⟩
theorem hg_facet {t : XT} {n z : Nat} {p1 : Int32} (hz : z ≤ 160) (h : ho (n + 1) t z) (g : hNk (n + 1) t) : ∃ k, wqX11_facet k t p1 (fun _ t' => hNk n t') := by
  obtain ⟨k, w⟩ := ho_facet (p1 := p1) h
  obtain ⟨b, hb, g⟩ := g
  exact ⟨300 + k, ndX11_facet (Nat.le_refl 300) (ho_b0 hb) g w (fun _ t' _ g' => ⟨b, ho_st hb (Nat.le_add_right _ _), g'⟩)⟩
theorem hg_link {t : XT} {n z : Nat} {p1 p2 : Int32} (hz : z ≤ 160) (h : ho (n + 1) t z) (g : hNk (n + 1) t) : ∃ k, wqX11_link k t p1 p2 (fun _ t' => hNk n t') := by
  obtain ⟨k, w⟩ := ho_link (p1 := p1) (p2 := p2) h
  obtain ⟨b, hb, g⟩ := g
  exact ⟨300 + k, ndX11_link (Nat.le_refl 300) (ho_b0 hb) g w (fun _ t' _ g' => ⟨b, ho_st hb (Nat.le_add_right _ _), g'⟩)⟩
theorem hg_room {t : XT} {n z : Nat} {p1 : Int32} (hz : z ≤ 160) (h : ho (n + 1) t z) (g : hNk (n + 1) t) : ∃ k, wqX11_room k t p1 (fun _ t' => hNk n t') := by
  obtain ⟨k, w⟩ := ho_room (p1 := p1) h
  obtain ⟨b, hb, g⟩ := g
  exact ⟨300 + k, ndX11_room (Nat.le_refl 300) (ho_b0 hb) g w (fun _ t' _ g' => ⟨b, ho_st hb (Nat.le_add_right _ _), g'⟩)⟩
theorem hg_draws {t : XT} {n z : Nat} {p1 : Int32} (hz : z ≤ 160) (h : ho (n + 1) t z) (g : hNk (n + 1) t) : ∃ k, wqX11_draws k t p1 (fun _ t' => hNk n t') := by
  obtain ⟨k, w⟩ := ho_draws (p1 := p1) h
  obtain ⟨b, hb, g⟩ := g
  exact ⟨300 + k, ndX11_draws (Nat.le_refl 300) (ho_b0 hb) g w (fun _ t' _ g' => ⟨b, ho_st hb (Nat.le_add_right _ _), g'⟩)⟩
theorem hg_drawn {t : XT} {n z : Nat} {p1 p2 : Int32} (hz : z ≤ 160) (h : ho (n + 1) t z) (g : hNk (n + 1) t) : ∃ k, wqX11_drawn k t p1 p2 (fun _ t' => hNk n t') := by
  obtain ⟨k, w⟩ := ho_drawn (p1 := p1) (p2 := p2) h
  obtain ⟨b, hb, g⟩ := g
  exact ⟨300 + k, ndX11_drawn (Nat.le_refl 300) (ho_b0 hb) g w (fun _ t' _ g' => ⟨b, ho_st hb (Nat.le_add_right _ _), g'⟩)⟩
theorem hg_level {t : XT} {n z : Nat} {p1 p2 : Int32} (hz : z ≤ 160) (h : ho (n + 1) t z) (g : hNk (n + 1) t) : ∃ k, wqX11_level k t p1 p2 (fun _ t' => hNk n t') := by
  obtain ⟨k, w⟩ := ho_level (p1 := p1) (p2 := p2) h
  obtain ⟨b, hb, g⟩ := g
  exact ⟨300 + k, ndX11_level (Nat.le_refl 300) (ho_b0 hb) g w (fun _ t' _ g' => ⟨b, ho_st hb (Nat.le_add_right _ _), g'⟩)⟩
theorem hg_levelBetti {t : XT} {n z : Nat} {p1 p2 : Int32} (hz : z ≤ 160) (h : ho (n + 1) t z) (g : hNk (n + 1) t) : ∃ k, wqX11_levelBetti k t p1 p2 (fun _ t' => hNk n t') := by
  obtain ⟨k, w⟩ := ho_levelBetti (p1 := p1) (p2 := p2) h
  obtain ⟨b, hb, g⟩ := g
  exact ⟨300 + k, ndX11_levelBetti (Nat.le_refl 300) (ho_b0 hb) g w (fun _ t' _ g' => ⟨b, ho_st hb (Nat.le_add_right _ _), g'⟩)⟩
theorem hg_keep {t : XT} {n z : Nat} {p1 : Int32} (hz : z ≤ 160) (h : ho (n + 1) t z) (g : hNk (n + 1) t) : ∃ k, wqX11_keep k t p1 (fun _ t' => hNk n t') := by
  obtain ⟨k, w⟩ := ho_keep (p1 := p1) h
  obtain ⟨b, hb, g⟩ := g
  exact ⟨300 + k, ndX11_keep (Nat.le_refl 300) (ho_b0 hb) g w (fun _ t' _ g' => ⟨b, ho_st hb (Nat.le_add_right _ _), g'⟩)⟩
theorem hg_same {t : XT} {n z : Nat} {p1 : Int32} (hz : z ≤ 160) (h : ho (n + 1) t z) (g : hNk (n + 1) t) : ∃ k, wqX11_same k t p1 (fun _ t' => hNk n t') := by
  obtain ⟨k, w⟩ := ho_same (p1 := p1) h
  obtain ⟨b, hb, g⟩ := g
  exact ⟨300 + k, ndX11_same (Nat.le_refl 300) (ho_b0 hb) g w (fun _ t' _ g' => ⟨b, ho_st hb (Nat.le_add_right _ _), g'⟩)⟩
theorem hg_count {t : XT} {n z : Nat} {p1 : Int32} (hz : z ≤ 160) (h : ho (n + 1) t z) (g : hNk (n + 1) t) : ∃ k, wqX11_count k t p1 (fun _ t' => hNk n t') := by
  obtain ⟨k, w⟩ := ho_count (p1 := p1) h
  obtain ⟨b, hb, g⟩ := g
  exact ⟨300 + k, ndX11_count (Nat.le_refl 300) (ho_b0 hb) g w (fun _ t' _ g' => ⟨b, ho_st hb (Nat.le_add_right _ _), g'⟩)⟩
theorem hg_complex {t : XT} {n z : Nat} (hz : z ≤ 160) (h : ho (n + 1) t z) (g : hNk (n + 1) t) : ∃ k, wqX11_complex k t  (fun _ t' => hNk n t') := by
  obtain ⟨m, hI, hS, h6, _⟩ := h
  obtain ⟨b, hb, g⟩ := g
  obtain ⟨L, hL⟩ : ∃ L, L = 100000 := ⟨_, rfl⟩
  obtain ⟨h, hh⟩ : ∃ h, h = 300 := ⟨_, rfl⟩
  exact ⟨h + L, hK_complex (by omega) hI hS h6 g (ho_b hb (by omega)) hz (by omega) (fun r m' t' i s s' g' => ⟨b + 1, ho_st hb (by omega), g'⟩)⟩
theorem hg_end {t : XT} {n z : Nat} {p1 : Int32} (hz : z ≤ 160) (h : ho (n + 1) t z) (g : hNk (n + 1) t) : ∃ k, wqX11_end k t p1 (fun _ t' => hNk n t') := by
  obtain ⟨k, w⟩ := ho_end hz (p1 := p1) h
  obtain ⟨b, hb, g⟩ := g
  exact ⟨300 + k, ndX11_end (Nat.le_refl 300) (ho_b0 hb) g w (fun _ t' _ g' => ⟨b, ho_st hb (Nat.le_add_right _ _), g'⟩)⟩
theorem hg_feed {t : XT} {n z : Nat} {p1 p2 p3 p4 p5 : Int32} (hz : z ≤ 160) (h : ho (n + 1) t z) (g : hNk (n + 1) t) : ∃ k, wqX11_feed k t p1 p2 p3 p4 p5 (fun _ t' => hNk n t') := by
  obtain ⟨k, w⟩ := ho_feed hz (p1 := p1) (p2 := p2) (p3 := p3) (p4 := p4) (p5 := p5) h
  obtain ⟨b, hb, g⟩ := g
  exact ⟨300 + k, ndX11_feed (Nat.le_refl 300) (ho_b0 hb) g w (fun _ t' _ g' => ⟨b, ho_st hb (Nat.le_add_right _ _), g'⟩)⟩
theorem hg_torsion {t : XT} {n z : Nat} {p1 p2 p3 : Int32} (hz : z ≤ 160) (h : ho (n + 1) t z) (g : hNk (n + 1) t) : ∃ k, wqX11_torsion k t p1 p2 p3 (fun _ t' => hNk n t') := by
  obtain ⟨k, w⟩ := ho_torsion (p1 := p1) (p2 := p2) (p3 := p3) h
  obtain ⟨b, hb, g⟩ := g
  exact ⟨300 + k, ndX11_torsion (Nat.le_refl 300) (ho_b0 hb) g w (fun _ t' _ g' => ⟨b, ho_st hb (Nat.le_add_right _ _), g'⟩)⟩
theorem hNk_0 : hNk 513 tx0 := ⟨0, by unfold ho_k; decide, ⟨0, rfl, by omega, fun k _ => Or.inl rfl⟩, fun k _ => Or.inl rfl, 0, Nat.le_refl 0, rfl, Or.inl rfl⟩
