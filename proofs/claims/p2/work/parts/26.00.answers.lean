/-! ===== both sides answer alike: end (what p3 compares) ===== -/
theorem ha_end (n : Nat) (tx tm : XT) (p1 : Int32) (hJ : hj (ho (n + 1)) tx tm) : ∃ k, wqX11_end k tx p1 (fun r1 tx' => ∃ k', wqX12_end k' tm p1 (fun r2 tm' => r1 = r2 ∧ hj (ho n) tx' tm')) := by
  obtain ⟨z, hR, m, hI, hS, h6, b, hb, g⟩ := hJ
  obtain ⟨L, hL⟩ : ∃ L, L = 100000 := ⟨_, rfl⟩
  have hz := hR.1
  have w : wqX11_end L tx p1 (fun r t' => (∃ y, y ≤ z ∧ p1 = nI y ∧ r = nI y ∧ hx_inv t' (nI y) m) ∨ ((∀ y, y ≤ z → p1 ≠ nI y) ∧ r = -1 ∧ hx_inv t' (nI z) m)) := hz_end hI hz (by omega) (fun y hy e t' i => Or.inl ⟨y, hy, e, rfl, i⟩) (fun q => Or.inr ⟨q, rfl, hI⟩)
  have w' : wqX12_end L tm p1 (fun r t' => (∃ y, y ≤ z ∧ p1 = nI y ∧ r = nI y ∧ hr t' y) ∨ ((∀ y, y ≤ z → p1 ≠ nI y) ∧ r = -1 ∧ hr t' z)) := by
    obtain ⟨_, e0, hx, m', n', hI', hg⟩ := id hR
    exact hq_end e0 hz (by omega) (fun y hy e => Or.inl ⟨y, hy, e, rfl, Nat.le_trans hy hz, rfl, hx, m', n', hq_frame rfl rfl rfl rfl rfl rfl hI', hq_geo_rows rfl rfl hg⟩) (fun q => Or.inr ⟨q, rfl, hR⟩)
  refine ⟨300 + L, ncX11_end (Nat.le_refl 300) (ho_b0 hb) g (wgX11_end h6_kp h6 (wgX11_end h5_kp hS w)) (fun r1 tx' i g' => ⟨L, wmX12_end (Nat.le_refl L) (fun r2 tm' h' => ?_) w'⟩)⟩
  obtain ⟨⟨i, s⟩, s'⟩ := i
  rcases i with ⟨y, a, e, er, i⟩ | ⟨q, er, i⟩
  · rcases h' with ⟨y', a', e', er', i'⟩ | ⟨q', _, _⟩
    · obtain rfl : y = y' := (nI_eq (by omega) (by omega)).mp (e.symm.trans e')
      exact ⟨er.trans er'.symm, y, i', m, i, s, s', _, ho_st hb (by omega), g'⟩
    · exact absurd e (q' y a)
  · rcases h' with ⟨y', a', e', _, _⟩ | ⟨_, er', i'⟩
    · exact absurd e' (q y' a')
    · exact ⟨er.trans er'.symm, z, i', m, i, s, s', _, ho_st hb (by omega), g'⟩
