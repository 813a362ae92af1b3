/-! ===== both sides: the TAPE's bytes and x the same; feed, end, draws answer alike ===== -/
def hJt (n : Nat) (tx tm : XT) : Prop := ∃ z x, hr tm z ∧ tm.1 8 = x ∧ ho n tx z ∧ tx.1 0 = x ∧ ∀ i, i < z → tx.2.2.1 0 i = tm.2.2.1 0 i &&& 255
theorem hty_sA (u : XT) (i : Nat) (f : Nat → Int32) (h : i ≠ 0) : (sA u i f).2.2.1 0 = u.2.2.1 0 := by
  show cond (Nat.beq 0 i) f (u.2.2.1 0) = u.2.2.1 0
  cases i with
  | zero => exact absurd rfl h
  | succ i => rfl
theorem hty_A (F : Nat → Int32) : kpA (fun u => u.2.2.1 0 = F) := ⟨fun _ _ _ w => w, fun _ _ _ w => w, fun u i f h w => (hty_sA u i f h).trans w, fun _ _ _ w => w⟩
theorem hty_B (F : Nat → Int32) : kpB (fun u => u.2.2.1 0 = F) := ⟨fun _ _ _ w => w, fun _ _ _ w => w, fun u i f h w => (hty_sA u i f h).trans w, fun _ _ _ w => w⟩
theorem hat_feed (n : Nat) (tx tm : XT) (p1 p2 p3 p4 p5 : Int32) (hJ : hJt (n + 1) tx tm) : ∃ k, wqX11_feed k tx p1 p2 p3 p4 p5 (fun r1 tx' => ∃ k', wqX12_feed k' tm p1 p2 p3 p4 p5 (fun r2 tm' => r1 = r2 ∧ hJt n tx' tm')) := by
  obtain ⟨z, x, hR, gx, hC, gy, gT⟩ := hJ
  obtain ⟨k, w⟩ := ho_feed (p1 := p1) (p2 := p2) (p3 := p3) (p4 := p4) (p5 := p5) hR.1 hC
  obtain ⟨hz, e0, hx, m, m', hI, hG⟩ := id hR
  obtain ⟨_, hI0, _⟩ := id hC
  have ex : wqX11_feed (k + 10) tx p1 p2 p3 p4 p5 (fun r t' => (z + 20 ≤ 160 → t'.2.2.1 0 = hlx (hlx (hlx (hlx (hlx (tx.2.2.1 0) z p1) (z + 4) p2) (z + 4 + 4) p3) (z + 4 + 4 + 4) p4) (z + 4 + 4 + 4 + 4) p5) ∧ (¬ z + 20 ≤ 160 → t'.2.2.1 0 = tx.2.2.1 0)) := hbx_feed hI0.1 hz (by omega) (fun q t' e => ⟨fun _ => e, fun y => absurd q y⟩) (fun q => ⟨fun y => absurd y q, fun _ => rfl⟩)
  have w2 := wmX11_feed (Nat.le_add_right k 10) (fun _ _ h => h) w
  refine ⟨k + 10, vyX11_feed (ha_0 x) gy (wjX11_feed w2 ex) (fun r1 tx' hg g => ⟨20, hbm_feed e0 hz (by decide) (fun q => ?_) (fun q => ?_)⟩)⟩
  · obtain ⟨h, t1⟩ := hg
    rcases h with ⟨_, b, i⟩ | ⟨a, _, _⟩
    · exact ⟨b, z + 20, x, ⟨q, rfl, hx, m, m', hq_frame rfl rfl rfl rfl rfl rfl hI, hq_geo_rows rfl rfl hG⟩, gx, i, g, fun i hi => (congrFun (t1.1 q) i).trans (hby_feeds p1 p2 p3 p4 p5 gT i hi)⟩
    · exact absurd q a
  · obtain ⟨h, t1⟩ := hg
    rcases h with ⟨a, _, _⟩ | ⟨_, b, i⟩
    · exact absurd a q
    · exact ⟨b, z, x, hR, gx, i, g, fun i hi => (congrFun (t1.2 q) i).trans (gT i hi)⟩
theorem hat_end (n : Nat) (tx tm : XT) (p1 : Int32) (hJ : hJt (n + 1) tx tm) : ∃ k, wqX11_end k tx p1 (fun r1 tx' => ∃ k', wqX12_end k' tm p1 (fun r2 tm' => r1 = r2 ∧ hJt n tx' tm')) := by
  obtain ⟨z, x, hR, gx, hC, gy, gT⟩ := hJ
  obtain ⟨m, hI, hS, h6, b, hb, gh⟩ := id hC
  obtain ⟨hz, e0, hx, m1, n1, hI', hg⟩ := id hR
  obtain ⟨L, hL⟩ : ∃ L, L = 100000 := ⟨_, rfl⟩
  have w : wqX11_end L tx p1 (fun r t' => (∃ y, y ≤ z ∧ p1 = nI y ∧ r = nI y ∧ hx_inv t' (nI y) m) ∨ ((∀ y, y ≤ z → p1 ≠ nI y) ∧ r = -1 ∧ hx_inv t' (nI z) m)) := hz_end hI hz (by omega) (fun y hy e t' i => Or.inl ⟨y, hy, e, rfl, i⟩) (fun q => Or.inr ⟨q, rfl, hI⟩)
  have w' : wqX12_end L tm p1 (fun r t' => (∃ y, y ≤ z ∧ p1 = nI y ∧ r = nI y ∧ hr t' y) ∨ ((∀ y, y ≤ z → p1 ≠ nI y) ∧ r = -1 ∧ hr t' z)) := hq_end e0 hz (by omega) (fun y hy e => Or.inl ⟨y, hy, e, rfl, Nat.le_trans hy hz, rfl, hx, m1, n1, hq_frame rfl rfl rfl rfl rfl rfl hI', hq_geo_rows rfl rfl hg⟩) (fun q => Or.inr ⟨q, rfl, hR⟩)
  refine ⟨300 + L, ncX11_end (Nat.le_refl 300) (ho_b0 hb) gh (vgX11_end (hty_A _) rfl (wzX11_end (ha_0 x) gy (wgX11_end h6_kp h6 (wgX11_end h5_kp hS w)))) (fun r1 tx' i g' => ⟨L, wmX12_end (Nat.le_refl L) (fun r2 tm' h' => ?_) (vgX12_end (hty_B _) rfl (wzX12_end (ha_8 x) gx w'))⟩)⟩
  obtain ⟨⟨⟨⟨i, s⟩, s'⟩, gx'⟩, gA⟩ := i
  obtain ⟨⟨h', gm⟩, gB⟩ := h'
  have gT' : ∀ y, y ≤ z → ∀ i, i < y → tx'.2.2.1 0 i = tm'.2.2.1 0 i &&& 255 := fun y hy i hi => (congrFun gA i).trans ((gT i (Nat.lt_of_lt_of_le hi hy)).trans (congrArg (· &&& 255) (congrFun gB i).symm))
  rcases i with ⟨y, a, e, er, i⟩ | ⟨q, er, i⟩
  · rcases h' with ⟨y', a', e', er', i'⟩ | ⟨q', _, _⟩
    · obtain rfl : y = y' := (nI_eq (by omega) (by omega)).mp (e.symm.trans e')
      exact ⟨er.trans er'.symm, y, x, i', gm, ⟨m, i, s, s', _, ho_st hb (by omega), g'⟩, gx', gT' y a⟩
    · exact absurd e (q' y a)
  · rcases h' with ⟨y', a', e', _, _⟩ | ⟨_, er', i'⟩
    · exact absurd e' (q y' a')
    · exact ⟨er.trans er'.symm, z, x, i', gm, ⟨m, i, s, s', _, ho_st hb (by omega), g'⟩, gx', gT' z (Nat.le_refl z)⟩
theorem hat_complex (n : Nat) (tx tm : XT) (hJ : hJt (n + 1) tx tm) : ∃ k, wqX11_complex k tx  (fun r1 tx' => ∃ k', wqX12_complex k' tm  (fun r2 tm' => hJt n tx' tm')) := by
  obtain ⟨z, x, hR, gx, hC, gy, gT⟩ := hJ
  obtain ⟨k, w⟩ := ho_complex  hR.1 hC
  obtain ⟨k', w'⟩ := hr_complex  hR
  refine ⟨k, vyX11_complex (ha_0 x) gy (vgX11_complex (hty_A _) rfl w) (fun r1 tx' h g => ⟨k', vyX12_complex (ha_8 x) gx (vgX12_complex (hty_B _) rfl w') (fun r2 tm' h' g' => ?_)⟩)⟩
  exact ⟨0, x, h'.1, g', h.1, g, fun i hi => absurd hi (Nat.not_lt_zero i)⟩
theorem hat_simplex (n : Nat) (tx tm : XT) (p1 p2 : Int32) (hJ : hJt (n + 1) tx tm) : ∃ k, wqX11_simplex k tx p1 p2 (fun r1 tx' => ∃ k', wqX12_simplex k' tm p1 p2 (fun r2 tm' => hJt n tx' tm')) := by
  obtain ⟨z, x, hR, gx, hC, gy, gT⟩ := hJ
  obtain ⟨k, w⟩ := ho_simplex (p1 := p1) (p2 := p2) hC
  obtain ⟨k', w'⟩ := hr_simplex (p1 := p1) (p2 := p2) hR
  refine ⟨k, vyX11_simplex (ha_0 x) gy (vgX11_simplex (hty_A _) rfl w) (fun r1 tx' h g => ⟨k', vyX12_simplex (ha_8 x) gx (vgX12_simplex (hty_B _) rfl w') (fun r2 tm' h' g' => ?_)⟩)⟩
  exact ⟨z, x, h'.1, g', h.1, g, fun i hi => (congrFun h.2 i).trans ((gT i hi).trans (congrArg (· &&& 255) (congrFun h'.2 i).symm))⟩
theorem hat_number (n : Nat) (tx tm : XT) (p1 : Int32) (hJ : hJt (n + 1) tx tm) : ∃ k, wqX11_number k tx p1 (fun r1 tx' => ∃ k', wqX12_number k' tm p1 (fun r2 tm' => hJt n tx' tm')) := by
  obtain ⟨z, x, hR, gx, hC, gy, gT⟩ := hJ
  obtain ⟨k, w⟩ := ho_number (p1 := p1) hC
  obtain ⟨k', w'⟩ := hr_number (p1 := p1) hR
  refine ⟨k, vyX11_number (ha_0 x) gy (vgX11_number (hty_A _) rfl w) (fun r1 tx' h g => ⟨k', vyX12_number (ha_8 x) gx (vgX12_number (hty_B _) rfl w') (fun r2 tm' h' g' => ?_)⟩)⟩
  exact ⟨z, x, h'.1, g', h.1, g, fun i hi => (congrFun h.2 i).trans ((gT i hi).trans (congrArg (· &&& 255) (congrFun h'.2 i).symm))⟩
theorem hat_sign (n : Nat) (tx tm : XT) (p1 p2 : Int32) (hJ : hJt (n + 1) tx tm) : ∃ k, wqX11_sign k tx p1 p2 (fun r1 tx' => ∃ k', wqX12_sign k' tm p1 p2 (fun r2 tm' => hJt n tx' tm')) := by
  obtain ⟨z, x, hR, gx, hC, gy, gT⟩ := hJ
  obtain ⟨k, w⟩ := ho_sign (p1 := p1) (p2 := p2) hC
  obtain ⟨k', w'⟩ := hr_sign (p1 := p1) (p2 := p2) hR
  refine ⟨k, vyX11_sign (ha_0 x) gy (vgX11_sign (hty_A _) rfl w) (fun r1 tx' h g => ⟨k', vyX12_sign (ha_8 x) gx (vgX12_sign (hty_B _) rfl w') (fun r2 tm' h' g' => ?_)⟩)⟩
  exact ⟨z, x, h'.1, g', h.1, g, fun i hi => (congrFun h.2 i).trans ((gT i hi).trans (congrArg (· &&& 255) (congrFun h'.2 i).symm))⟩
theorem hat_pair (n : Nat) (tx tm : XT) (p1 p2 : Int32) (hJ : hJt (n + 1) tx tm) : ∃ k, wqX11_pair k tx p1 p2 (fun r1 tx' => ∃ k', wqX12_pair k' tm p1 p2 (fun r2 tm' => hJt n tx' tm')) := by
  obtain ⟨z, x, hR, gx, hC, gy, gT⟩ := hJ
  obtain ⟨k, w⟩ := ho_pair (p1 := p1) (p2 := p2) hC
  obtain ⟨k', w'⟩ := hr_pair (p1 := p1) (p2 := p2) hR
  refine ⟨k, vyX11_pair (ha_0 x) gy (vgX11_pair (hty_A _) rfl w) (fun r1 tx' h g => ⟨k', vyX12_pair (ha_8 x) gx (vgX12_pair (hty_B _) rfl w') (fun r2 tm' h' g' => ?_)⟩)⟩
  exact ⟨z, x, h'.1, g', h.1, g, fun i hi => (congrFun h.2 i).trans ((gT i hi).trans (congrArg (· &&& 255) (congrFun h'.2 i).symm))⟩
theorem hat_part (n : Nat) (tx tm : XT) (p1 : Int32) (hJ : hJt (n + 1) tx tm) : ∃ k, wqX11_part k tx p1 (fun r1 tx' => ∃ k', wqX12_part k' tm p1 (fun r2 tm' => hJt n tx' tm')) := by
  obtain ⟨z, x, hR, gx, hC, gy, gT⟩ := hJ
  obtain ⟨k, w⟩ := ho_part (p1 := p1) hC
  obtain ⟨k', w'⟩ := hr_part (p1 := p1) hR
  refine ⟨k, vyX11_part (ha_0 x) gy (vgX11_part (hty_A _) rfl w) (fun r1 tx' h g => ⟨k', vyX12_part (ha_8 x) gx (vgX12_part (hty_B _) rfl w') (fun r2 tm' h' g' => ?_)⟩)⟩
  exact ⟨z, x, h'.1, g', h.1, g, fun i hi => (congrFun h.2 i).trans ((gT i hi).trans (congrArg (· &&& 255) (congrFun h'.2 i).symm))⟩
theorem hat_auto (n : Nat) (tx tm : XT) (p1 : Int32) (hJ : hJt (n + 1) tx tm) : ∃ k, wqX11_auto k tx p1 (fun r1 tx' => ∃ k', wqX12_auto k' tm p1 (fun r2 tm' => hJt n tx' tm')) := by
  obtain ⟨z, x, hR, gx, hC, gy, gT⟩ := hJ
  obtain ⟨k, w⟩ := ho_auto (p1 := p1) hC
  obtain ⟨k', w'⟩ := hr_auto (p1 := p1) hR
  refine ⟨k, vyX11_auto (ha_0 x) gy (vgX11_auto (hty_A _) rfl w) (fun r1 tx' h g => ⟨k', vyX12_auto (ha_8 x) gx (vgX12_auto (hty_B _) rfl w') (fun r2 tm' h' g' => ?_)⟩)⟩
  exact ⟨z, x, h'.1, g', h.1, g, fun i hi => (congrFun h.2 i).trans ((gT i hi).trans (congrArg (· &&& 255) (congrFun h'.2 i).symm))⟩
theorem hat_cancel (n : Nat) (tx tm : XT) (p1 p2 : Int32) (hJ : hJt (n + 1) tx tm) : ∃ k, wqX11_cancel k tx p1 p2 (fun r1 tx' => ∃ k', wqX12_cancel k' tm p1 p2 (fun r2 tm' => hJt n tx' tm')) := by
  obtain ⟨z, x, hR, gx, hC, gy, gT⟩ := hJ
  obtain ⟨k, w⟩ := ho_cancel (p1 := p1) (p2 := p2) hC
  obtain ⟨k', w'⟩ := hr_cancel (p1 := p1) (p2 := p2) hR
  refine ⟨k, vyX11_cancel (ha_0 x) gy (vgX11_cancel (hty_A _) rfl w) (fun r1 tx' h g => ⟨k', vyX12_cancel (ha_8 x) gx (vgX12_cancel (hty_B _) rfl w') (fun r2 tm' h' g' => ?_)⟩)⟩
  exact ⟨z, x, h'.1, g', h.1, g, fun i hi => (congrFun h.2 i).trans ((gT i hi).trans (congrArg (· &&& 255) (congrFun h'.2 i).symm))⟩
theorem hat_collapse (n : Nat) (tx tm : XT) (p1 : Int32) (hJ : hJt (n + 1) tx tm) : ∃ k, wqX11_collapse k tx p1 (fun r1 tx' => ∃ k', wqX12_collapse k' tm p1 (fun r2 tm' => hJt n tx' tm')) := by
  obtain ⟨z, x, hR, gx, hC, gy, gT⟩ := hJ
  obtain ⟨k, w⟩ := ho_collapse (p1 := p1) hC
  obtain ⟨k', w'⟩ := hr_collapse (p1 := p1) hR
  refine ⟨k, vyX11_collapse (ha_0 x) gy (vgX11_collapse (hty_A _) rfl w) (fun r1 tx' h g => ⟨k', vyX12_collapse (ha_8 x) gx (vgX12_collapse (hty_B _) rfl w') (fun r2 tm' h' g' => ?_)⟩)⟩
  exact ⟨z, x, h'.1, g', h.1, g, fun i hi => (congrFun h.2 i).trans ((gT i hi).trans (congrArg (· &&& 255) (congrFun h'.2 i).symm))⟩
theorem hat_undo (n : Nat) (tx tm : XT) (hJ : hJt (n + 1) tx tm) : ∃ k, wqX11_undo k tx  (fun r1 tx' => ∃ k', wqX12_undo k' tm  (fun r2 tm' => hJt n tx' tm')) := by
  obtain ⟨z, x, hR, gx, hC, gy, gT⟩ := hJ
  obtain ⟨k, w⟩ := ho_undo  hC
  obtain ⟨k', w'⟩ := hr_undo  hR
  refine ⟨k, vyX11_undo (ha_0 x) gy (vgX11_undo (hty_A _) rfl w) (fun r1 tx' h g => ⟨k', vyX12_undo (ha_8 x) gx (vgX12_undo (hty_B _) rfl w') (fun r2 tm' h' g' => ?_)⟩)⟩
  exact ⟨z, x, h'.1, g', h.1, g, fun i hi => (congrFun h.2 i).trans ((gT i hi).trans (congrArg (· &&& 255) (congrFun h'.2 i).symm))⟩
theorem hat_critical (n : Nat) (tx tm : XT) (p1 p2 : Int32) (hJ : hJt (n + 1) tx tm) : ∃ k, wqX11_critical k tx p1 p2 (fun r1 tx' => ∃ k', wqX12_critical k' tm p1 p2 (fun r2 tm' => hJt n tx' tm')) := by
  obtain ⟨z, x, hR, gx, hC, gy, gT⟩ := hJ
  obtain ⟨k, w⟩ := ho_critical (p1 := p1) (p2 := p2) hC
  obtain ⟨k', w'⟩ := hr_critical (p1 := p1) (p2 := p2) hR
  refine ⟨k, vyX11_critical (ha_0 x) gy (vgX11_critical (hty_A _) rfl w) (fun r1 tx' h g => ⟨k', vyX12_critical (ha_8 x) gx (vgX12_critical (hty_B _) rfl w') (fun r2 tm' h' g' => ?_)⟩)⟩
  exact ⟨z, x, h'.1, g', h.1, g, fun i hi => (congrFun h.2 i).trans ((gT i hi).trans (congrArg (· &&& 255) (congrFun h'.2 i).symm))⟩
theorem hat_paths (n : Nat) (tx tm : XT) (p1 p2 : Int32) (hJ : hJt (n + 1) tx tm) : ∃ k, wqX11_paths k tx p1 p2 (fun r1 tx' => ∃ k', wqX12_paths k' tm p1 p2 (fun r2 tm' => hJt n tx' tm')) := by
  obtain ⟨z, x, hR, gx, hC, gy, gT⟩ := hJ
  obtain ⟨k, w⟩ := ho_paths (p1 := p1) (p2 := p2) hC
  obtain ⟨k', w'⟩ := hr_paths (p1 := p1) (p2 := p2) hR
  refine ⟨k, vyX11_paths (ha_0 x) gy (vgX11_paths (hty_A _) rfl w) (fun r1 tx' h g => ⟨k', vyX12_paths (ha_8 x) gx (vgX12_paths (hty_B _) rfl w') (fun r2 tm' h' g' => ?_)⟩)⟩
  exact ⟨z, x, h'.1, g', h.1, g, fun i hi => (congrFun h.2 i).trans ((gT i hi).trans (congrArg (· &&& 255) (congrFun h'.2 i).symm))⟩
theorem hat_path (n : Nat) (tx tm : XT) (p1 p2 p3 p4 : Int32) (hJ : hJt (n + 1) tx tm) : ∃ k, wqX11_path k tx p1 p2 p3 p4 (fun r1 tx' => ∃ k', wqX12_path k' tm p1 p2 p3 p4 (fun r2 tm' => hJt n tx' tm')) := by
  obtain ⟨z, x, hR, gx, hC, gy, gT⟩ := hJ
  obtain ⟨k, w⟩ := ho_path (p1 := p1) (p2 := p2) (p3 := p3) (p4 := p4) hC
  obtain ⟨k', w'⟩ := hr_path (p1 := p1) (p2 := p2) (p3 := p3) (p4 := p4) hR
  refine ⟨k, vyX11_path (ha_0 x) gy (vgX11_path (hty_A _) rfl w) (fun r1 tx' h g => ⟨k', vyX12_path (ha_8 x) gx (vgX12_path (hty_B _) rfl w') (fun r2 tm' h' g' => ?_)⟩)⟩
  exact ⟨z, x, h'.1, g', h.1, g, fun i hi => (congrFun h.2 i).trans ((gT i hi).trans (congrArg (· &&& 255) (congrFun h'.2 i).symm))⟩
theorem hat_incidence (n : Nat) (tx tm : XT) (p1 p2 : Int32) (hJ : hJt (n + 1) tx tm) : ∃ k, wqX11_incidence k tx p1 p2 (fun r1 tx' => ∃ k', wqX12_incidence k' tm p1 p2 (fun r2 tm' => hJt n tx' tm')) := by
  obtain ⟨z, x, hR, gx, hC, gy, gT⟩ := hJ
  obtain ⟨k, w⟩ := ho_incidence (p1 := p1) (p2 := p2) hC
  obtain ⟨k', w'⟩ := hr_incidence (p1 := p1) (p2 := p2) hR
  refine ⟨k, vyX11_incidence (ha_0 x) gy (vgX11_incidence (hty_A _) rfl w) (fun r1 tx' h g => ⟨k', vyX12_incidence (ha_8 x) gx (vgX12_incidence (hty_B _) rfl w') (fun r2 tm' h' g' => ?_)⟩)⟩
  exact ⟨z, x, h'.1, g', h.1, g, fun i hi => (congrFun h.2 i).trans ((gT i hi).trans (congrArg (· &&& 255) (congrFun h'.2 i).symm))⟩
theorem hat_chain (n : Nat) (tx tm : XT) (p1 p2 : Int32) (hJ : hJt (n + 1) tx tm) : ∃ k, wqX11_chain k tx p1 p2 (fun r1 tx' => ∃ k', wqX12_chain k' tm p1 p2 (fun r2 tm' => hJt n tx' tm')) := by
  obtain ⟨z, x, hR, gx, hC, gy, gT⟩ := hJ
  obtain ⟨k, w⟩ := ho_chain (p1 := p1) (p2 := p2) hC
  obtain ⟨k', w'⟩ := hr_chain (p1 := p1) (p2 := p2) hR
  refine ⟨k, vyX11_chain (ha_0 x) gy (vgX11_chain (hty_A _) rfl w) (fun r1 tx' h g => ⟨k', vyX12_chain (ha_8 x) gx (vgX12_chain (hty_B _) rfl w') (fun r2 tm' h' g' => ?_)⟩)⟩
  exact ⟨z, x, h'.1, g', h.1, g, fun i hi => (congrFun h.2 i).trans ((gT i hi).trans (congrArg (· &&& 255) (congrFun h'.2 i).symm))⟩
theorem hat_root (n : Nat) (tx tm : XT) (p1 p2 : Int32) (hJ : hJt (n + 1) tx tm) : ∃ k, wqX11_root k tx p1 p2 (fun r1 tx' => ∃ k', wqX12_root k' tm p1 p2 (fun r2 tm' => hJt n tx' tm')) := by
  obtain ⟨z, x, hR, gx, hC, gy, gT⟩ := hJ
  obtain ⟨k, w⟩ := ho_root (p1 := p1) (p2 := p2) hC
  obtain ⟨k', w'⟩ := hr_root (p1 := p1) (p2 := p2) hR
  refine ⟨k, vyX11_root (ha_0 x) gy (vgX11_root (hty_A _) rfl w) (fun r1 tx' h g => ⟨k', vyX12_root (ha_8 x) gx (vgX12_root (hty_B _) rfl w') (fun r2 tm' h' g' => ?_)⟩)⟩
  exact ⟨z, x, h'.1, g', h.1, g, fun i hi => (congrFun h.2 i).trans ((gT i hi).trans (congrArg (· &&& 255) (congrFun h'.2 i).symm))⟩
theorem hat_through (n : Nat) (tx tm : XT) (p1 p2 p3 : Int32) (hJ : hJt (n + 1) tx tm) : ∃ k, wqX11_through k tx p1 p2 p3 (fun r1 tx' => ∃ k', wqX12_through k' tm p1 p2 p3 (fun r2 tm' => hJt n tx' tm')) := by
  obtain ⟨z, x, hR, gx, hC, gy, gT⟩ := hJ
  obtain ⟨k, w⟩ := ho_through (p1 := p1) (p2 := p2) (p3 := p3) hC
  obtain ⟨k', w'⟩ := hr_through (p1 := p1) (p2 := p2) (p3 := p3) hR
  refine ⟨k, vyX11_through (ha_0 x) gy (vgX11_through (hty_A _) rfl w) (fun r1 tx' h g => ⟨k', vyX12_through (ha_8 x) gx (vgX12_through (hty_B _) rfl w') (fun r2 tm' h' g' => ?_)⟩)⟩
  exact ⟨z, x, h'.1, g', h.1, g, fun i hi => (congrFun h.2 i).trans ((gT i hi).trans (congrArg (· &&& 255) (congrFun h'.2 i).symm))⟩
theorem hat_squares (n : Nat) (tx tm : XT) (hJ : hJt (n + 1) tx tm) : ∃ k, wqX11_squares k tx  (fun r1 tx' => ∃ k', wqX12_squares k' tm  (fun r2 tm' => hJt n tx' tm')) := by
  obtain ⟨z, x, hR, gx, hC, gy, gT⟩ := hJ
  obtain ⟨k, w⟩ := ho_squares  hC
  obtain ⟨k', w'⟩ := hr_squares  hR
  refine ⟨k, vyX11_squares (ha_0 x) gy (vgX11_squares (hty_A _) rfl w) (fun r1 tx' h g => ⟨k', vyX12_squares (ha_8 x) gx (vgX12_squares (hty_B _) rfl w') (fun r2 tm' h' g' => ?_)⟩)⟩
  exact ⟨z, x, h'.1, g', h.1, g, fun i hi => (congrFun h.2 i).trans ((gT i hi).trans (congrArg (· &&& 255) (congrFun h'.2 i).symm))⟩
theorem hat_betti {K0 : Nat} (P : hq_point K0) (n : Nat) (tx tm : XT) (p1 p2 : Int32) (hJ : hJt (n + 1) tx tm) : ∃ k, wqX11_betti k tx p1 p2 (fun r1 tx' => ∃ k', wqX12_betti k' tm p1 p2 (fun r2 tm' => hJt n tx' tm')) := by
  obtain ⟨z, x, hR, gx, hC, gy, gT⟩ := hJ
  obtain ⟨k, w⟩ := ho_betti (p1 := p1) (p2 := p2) hC
  obtain ⟨k', w'⟩ := hr_betti P (p1 := p1) (p2 := p2) hR
  refine ⟨k, vyX11_betti (ha_0 x) gy (vgX11_betti (hty_A _) rfl w) (fun r1 tx' h g => ⟨k', vyX12_betti (ha_8 x) gx (vgX12_betti (hty_B _) rfl w') (fun r2 tm' h' g' => ?_)⟩)⟩
  exact ⟨z, x, h'.1, g', h.1, g, fun i hi => (congrFun h.2 i).trans ((gT i hi).trans (congrArg (· &&& 255) (congrFun h'.2 i).symm))⟩
theorem hat_torsion {K0 : Nat} (P : hq_point K0) (n : Nat) (tx tm : XT) (p1 p2 p3 : Int32) (hJ : hJt (n + 1) tx tm) : ∃ k, wqX11_torsion k tx p1 p2 p3 (fun r1 tx' => ∃ k', wqX12_torsion k' tm p1 p2 p3 (fun r2 tm' => hJt n tx' tm')) := by
  obtain ⟨z, x, hR, gx, hC, gy, gT⟩ := hJ
  obtain ⟨k, w⟩ := ho_torsion (p1 := p1) (p2 := p2) (p3 := p3) hC
  obtain ⟨k', w'⟩ := hr_torsion P (p1 := p1) (p2 := p2) (p3 := p3) hR
  refine ⟨k, vyX11_torsion (ha_0 x) gy (vgX11_torsion (hty_A _) rfl w) (fun r1 tx' h g => ⟨k', vyX12_torsion (ha_8 x) gx (vgX12_torsion (hty_B _) rfl w') (fun r2 tm' h' g' => ?_)⟩)⟩
  exact ⟨z, x, h'.1, g', h.1, g, fun i hi => (congrFun h.2 i).trans ((gT i hi).trans (congrArg (· &&& 255) (congrFun h'.2 i).symm))⟩
theorem hat_slack {K0 : Nat} (P : hq_point K0) (n : Nat) (tx tm : XT) (p1 : Int32) (hJ : hJt (n + 1) tx tm) : ∃ k, wqX11_slack k tx p1 (fun r1 tx' => ∃ k', wqX12_slack k' tm p1 (fun r2 tm' => hJt n tx' tm')) := by
  obtain ⟨z, x, hR, gx, hC, gy, gT⟩ := hJ
  obtain ⟨k, w⟩ := ho_slack (p1 := p1) hC
  obtain ⟨k', w'⟩ := hr_slack P (p1 := p1) hR
  refine ⟨k, vyX11_slack (ha_0 x) gy (vgX11_slack (hty_A _) rfl w) (fun r1 tx' h g => ⟨k', vyX12_slack (ha_8 x) gx (vgX12_slack (hty_B _) rfl w') (fun r2 tm' h' g' => ?_)⟩)⟩
  exact ⟨z, x, h'.1, g', h.1, g, fun i hi => (congrFun h.2 i).trans ((gT i hi).trans (congrArg (· &&& 255) (congrFun h'.2 i).symm))⟩
theorem hat_free (n : Nat) (tx tm : XT) (p1 : Int32) (hJ : hJt (n + 1) tx tm) : ∃ k, wqX11_free k tx p1 (fun r1 tx' => ∃ k', wqX12_free k' tm p1 (fun r2 tm' => hJt n tx' tm')) := by
  obtain ⟨z, x, hR, gx, hC, gy, gT⟩ := hJ
  obtain ⟨k, w⟩ := ho_free (p1 := p1) hC
  obtain ⟨k', w'⟩ := hr_free (p1 := p1) hR
  refine ⟨k, vyX11_free (ha_0 x) gy (vgX11_free (hty_A _) rfl w) (fun r1 tx' h g => ⟨k', vyX12_free (ha_8 x) gx (vgX12_free (hty_B _) rfl w') (fun r2 tm' h' g' => ?_)⟩)⟩
  exact ⟨z, x, h'.1, g', h.1, g, fun i hi => (congrFun h.2 i).trans ((gT i hi).trans (congrArg (· &&& 255) (congrFun h'.2 i).symm))⟩
theorem hat_facet (n : Nat) (tx tm : XT) (p1 : Int32) (hJ : hJt (n + 1) tx tm) : ∃ k, wqX11_facet k tx p1 (fun r1 tx' => ∃ k', wqX12_facet k' tm p1 (fun r2 tm' => hJt n tx' tm')) := by
  obtain ⟨z, x, hR, gx, hC, gy, gT⟩ := hJ
  obtain ⟨k, w⟩ := ho_facet (p1 := p1) hC
  obtain ⟨k', w'⟩ := hr_facet (p1 := p1) hR
  refine ⟨k, vyX11_facet (ha_0 x) gy (vgX11_facet (hty_A _) rfl w) (fun r1 tx' h g => ⟨k', vyX12_facet (ha_8 x) gx (vgX12_facet (hty_B _) rfl w') (fun r2 tm' h' g' => ?_)⟩)⟩
  exact ⟨z, x, h'.1, g', h.1, g, fun i hi => (congrFun h.2 i).trans ((gT i hi).trans (congrArg (· &&& 255) (congrFun h'.2 i).symm))⟩
theorem hat_link (n : Nat) (tx tm : XT) (p1 p2 : Int32) (hJ : hJt (n + 1) tx tm) : ∃ k, wqX11_link k tx p1 p2 (fun r1 tx' => ∃ k', wqX12_link k' tm p1 p2 (fun r2 tm' => hJt n tx' tm')) := by
  obtain ⟨z, x, hR, gx, hC, gy, gT⟩ := hJ
  obtain ⟨k, w⟩ := ho_link (p1 := p1) (p2 := p2) hC
  obtain ⟨k', w'⟩ := hr_link (p1 := p1) (p2 := p2) hR
  refine ⟨k, vyX11_link (ha_0 x) gy (vgX11_link (hty_A _) rfl w) (fun r1 tx' h g => ⟨k', vyX12_link (ha_8 x) gx (vgX12_link (hty_B _) rfl w') (fun r2 tm' h' g' => ?_)⟩)⟩
  exact ⟨z, x, h'.1, g', h.1, g, fun i hi => (congrFun h.2 i).trans ((gT i hi).trans (congrArg (· &&& 255) (congrFun h'.2 i).symm))⟩
theorem hat_room (n : Nat) (tx tm : XT) (p1 : Int32) (hJ : hJt (n + 1) tx tm) : ∃ k, wqX11_room k tx p1 (fun r1 tx' => ∃ k', wqX12_room k' tm p1 (fun r2 tm' => hJt n tx' tm')) := by
  obtain ⟨z, x, hR, gx, hC, gy, gT⟩ := hJ
  obtain ⟨k, w⟩ := ho_room (p1 := p1) hC
  obtain ⟨k', w'⟩ := hr_room (p1 := p1) hR
  refine ⟨k, vyX11_room (ha_0 x) gy (vgX11_room (hty_A _) rfl w) (fun r1 tx' h g => ⟨k', vyX12_room (ha_8 x) gx (vgX12_room (hty_B _) rfl w') (fun r2 tm' h' g' => ?_)⟩)⟩
  exact ⟨z, x, h'.1, g', h.1, g, fun i hi => (congrFun h.2 i).trans ((gT i hi).trans (congrArg (· &&& 255) (congrFun h'.2 i).symm))⟩
theorem hat_draws (n : Nat) (tx tm : XT) (p1 : Int32) (hJ : hJt (n + 1) tx tm) : ∃ k, wqX11_draws k tx p1 (fun r1 tx' => ∃ k', wqX12_draws k' tm p1 (fun r2 tm' => r1 = r2 ∧ hJt n tx' tm')) := by
  obtain ⟨z, x, hR, gx, hC, gy, gT⟩ := hJ
  obtain ⟨k, w⟩ := ho_draws (p1 := p1) hC
  obtain ⟨hz, e0, hx, m, m', hI, hG⟩ := id hR
  have ex : wqX11_draws (k + 1) tx p1 (fun r t' => (0 ≤ p1 → r = x ∧ t'.1 0 = p1) ∧ (¬ 0 ≤ p1 → r = -1 ∧ t'.1 0 = x)) := ha_dX (fun c => ⟨fun _ => ⟨gy, rfl⟩, fun n => absurd c n⟩) (fun c => ⟨fun y => absurd y c, fun _ => ⟨rfl, gy⟩⟩)
  have w2 := wmX11_draws (Nat.le_succ k) (fun _ _ h => h) w
  refine ⟨k + 1, vtX11_draws (hty_A _) rfl (wjX11_draws w2 ex) (fun r1 tx' hg gA => ⟨0 + 1, ha_dM (fun c => ?_) (fun c => ?_)⟩)⟩
  · exact ⟨(hg.2.1 c).1.trans gx.symm, z, p1, ⟨hz, e0, c, m, m', hq_frame rfl rfl rfl rfl rfl rfl hI, hq_geo_rows rfl rfl hG⟩, rfl, hg.1, (hg.2.1 c).2, fun i hi => (congrFun gA i).trans (gT i hi)⟩
  · exact ⟨(hg.2.2 c).1, z, x, hR, gx, hg.1, (hg.2.2 c).2, fun i hi => (congrFun gA i).trans (gT i hi)⟩
theorem hat_drawn (n : Nat) (tx tm : XT) (p1 p2 : Int32) (hJ : hJt (n + 1) tx tm) : ∃ k, wqX11_drawn k tx p1 p2 (fun r1 tx' => ∃ k', wqX12_drawn k' tm p1 p2 (fun r2 tm' => hJt n tx' tm')) := by
  obtain ⟨z, x, hR, gx, hC, gy, gT⟩ := hJ
  obtain ⟨k, w⟩ := ho_drawn (p1 := p1) (p2 := p2) hC
  obtain ⟨k', w'⟩ := hr_drawn (p1 := p1) (p2 := p2) hR
  refine ⟨k, vyX11_drawn gy (vgX11_drawn (hty_A _) rfl w) (fun r1 tx' h g => ⟨k', vyX12_drawn gx (vgX12_drawn (hty_B _) rfl w') (fun r2 tm' h' g' => ?_)⟩)⟩
  exact ⟨z, x, h'.1, g', h.1, g, fun i hi => (congrFun h.2 i).trans ((gT i hi).trans (congrArg (· &&& 255) (congrFun h'.2 i).symm))⟩
theorem hat_level (n : Nat) (tx tm : XT) (p1 p2 : Int32) (hJ : hJt (n + 1) tx tm) : ∃ k, wqX11_level k tx p1 p2 (fun r1 tx' => ∃ k', wqX12_level k' tm p1 p2 (fun r2 tm' => hJt n tx' tm')) := by
  obtain ⟨z, x, hR, gx, hC, gy, gT⟩ := hJ
  obtain ⟨k, w⟩ := ho_level (p1 := p1) (p2 := p2) hC
  obtain ⟨k', w'⟩ := hr_level (p1 := p1) (p2 := p2) hR
  refine ⟨k, vyX11_level (ha_0 x) gy (vgX11_level (hty_A _) rfl w) (fun r1 tx' h g => ⟨k', vyX12_level (ha_8 x) gx (vgX12_level (hty_B _) rfl w') (fun r2 tm' h' g' => ?_)⟩)⟩
  exact ⟨z, x, h'.1, g', h.1, g, fun i hi => (congrFun h.2 i).trans ((gT i hi).trans (congrArg (· &&& 255) (congrFun h'.2 i).symm))⟩
theorem hat_levelBetti {K0 : Nat} (P : hq_point K0) (n : Nat) (tx tm : XT) (p1 p2 : Int32) (hJ : hJt (n + 1) tx tm) : ∃ k, wqX11_levelBetti k tx p1 p2 (fun r1 tx' => ∃ k', wqX12_levelBetti k' tm p1 p2 (fun r2 tm' => hJt n tx' tm')) := by
  obtain ⟨z, x, hR, gx, hC, gy, gT⟩ := hJ
  obtain ⟨k, w⟩ := ho_levelBetti (p1 := p1) (p2 := p2) hC
  obtain ⟨k', w'⟩ := hr_levelBetti P (p1 := p1) (p2 := p2) hR
  refine ⟨k, vyX11_levelBetti (ha_0 x) gy (vgX11_levelBetti (hty_A _) rfl w) (fun r1 tx' h g => ⟨k', vyX12_levelBetti (ha_8 x) gx (vgX12_levelBetti (hty_B _) rfl w') (fun r2 tm' h' g' => ?_)⟩)⟩
  exact ⟨z, x, h'.1, g', h.1, g, fun i hi => (congrFun h.2 i).trans ((gT i hi).trans (congrArg (· &&& 255) (congrFun h'.2 i).symm))⟩
theorem hat_keep (n : Nat) (tx tm : XT) (p1 : Int32) (hJ : hJt (n + 1) tx tm) : ∃ k, wqX11_keep k tx p1 (fun r1 tx' => ∃ k', wqX12_keep k' tm p1 (fun r2 tm' => hJt n tx' tm')) := by
  obtain ⟨z, x, hR, gx, hC, gy, gT⟩ := hJ
  obtain ⟨k, w⟩ := ho_keep (p1 := p1) hC
  obtain ⟨k', w'⟩ := hr_keep (p1 := p1) hR
  refine ⟨k, vyX11_keep (ha_0 x) gy (vgX11_keep (hty_A _) rfl w) (fun r1 tx' h g => ⟨k', vyX12_keep (ha_8 x) gx (vgX12_keep (hty_B _) rfl w') (fun r2 tm' h' g' => ?_)⟩)⟩
  exact ⟨z, x, h'.1, g', h.1, g, fun i hi => (congrFun h.2 i).trans ((gT i hi).trans (congrArg (· &&& 255) (congrFun h'.2 i).symm))⟩
theorem hat_same (n : Nat) (tx tm : XT) (p1 : Int32) (hJ : hJt (n + 1) tx tm) : ∃ k, wqX11_same k tx p1 (fun r1 tx' => ∃ k', wqX12_same k' tm p1 (fun r2 tm' => hJt n tx' tm')) := by
  obtain ⟨z, x, hR, gx, hC, gy, gT⟩ := hJ
  obtain ⟨k, w⟩ := ho_same (p1 := p1) hC
  obtain ⟨k', w'⟩ := hr_same (p1 := p1) hR
  refine ⟨k, vyX11_same (ha_0 x) gy (vgX11_same (hty_A _) rfl w) (fun r1 tx' h g => ⟨k', vyX12_same (ha_8 x) gx (vgX12_same (hty_B _) rfl w') (fun r2 tm' h' g' => ?_)⟩)⟩
  exact ⟨z, x, h'.1, g', h.1, g, fun i hi => (congrFun h.2 i).trans ((gT i hi).trans (congrArg (· &&& 255) (congrFun h'.2 i).symm))⟩
theorem hat_count (n : Nat) (tx tm : XT) (p1 : Int32) (hJ : hJt (n + 1) tx tm) : ∃ k, wqX11_count k tx p1 (fun r1 tx' => ∃ k', wqX12_count k' tm p1 (fun r2 tm' => hJt n tx' tm')) := by
  obtain ⟨z, x, hR, gx, hC, gy, gT⟩ := hJ
  obtain ⟨k, w⟩ := ho_count (p1 := p1) hC
  obtain ⟨k', w'⟩ := hr_count (p1 := p1) hR
  refine ⟨k, vyX11_count (ha_0 x) gy (vgX11_count (hty_A _) rfl w) (fun r1 tx' h g => ⟨k', vyX12_count (ha_8 x) gx (vgX12_count (hty_B _) rfl w') (fun r2 tm' h' g' => ?_)⟩)⟩
  exact ⟨z, x, h'.1, g', h.1, g, fun i hi => (congrFun h.2 i).trans ((gT i hi).trans (congrArg (· &&& 255) (congrFun h'.2 i).symm))⟩
theorem hJt_dn (n : Nat) (tx tm : XT) (h : hJt (n + 1) tx tm) : hJt n tx tm := by
  obtain ⟨z, x, a, b, c, d⟩ := h
  exact ⟨z, x, a, b, ho_dn n tx z c, d⟩
theorem hJt_0 : hJt 513 tx0 tm0 := ⟨0, 0, hr_0, rfl, ho_0, rfl, fun i hi => absurd hi (Nat.not_lt_zero i)⟩
