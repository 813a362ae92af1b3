/-! ===== both sides: the TAPE as long, x the same; feed, end, draws answer alike ===== -/
def hJx (n : Nat) (tx tm : XT) : Prop := ∃ z x, hr tm z ∧ tm.1 8 = x ∧ ho n tx z ∧ tx.1 0 = x
theorem ha_0 (x : Int32) : kp0 (fun u => u.1 0 = x) := ⟨fun u i v h w => (ht_nI u i v h.symm).trans w, fun _ _ _ w => w, fun _ _ _ w => w, fun _ _ _ w => w⟩
theorem ha_dX {k : Nat} {t : XT} {p1 : Int32} {Q : Int32 → XT → Prop} (h1 : 0 ≤ p1 → Q (t.1 0) (sI t 0 p1)) (h0 : ¬ 0 ≤ p1 → Q (-1) t) : wqX11_draws (k + 1) t p1 Q := by
  show wbX11_draws_0 (wpX11_draws k) k t (uI (fun _ => 0) 1 p1) (fun _ => 0) Q
  exact ⟨fun c t2 e2 => by rw [e2]; exact h1 c, fun c => h0 c⟩
theorem ha_dM {k : Nat} {t : XT} {p1 : Int32} {Q : Int32 → XT → Prop} (h1 : 0 ≤ p1 → Q (t.1 8) (sI t 8 p1)) (h0 : ¬ 0 ≤ p1 → Q (-1) t) : wqX12_draws (k + 1) t p1 Q := by
  show wbX12_draws_0 (wpX12_draws k) k t (uI (fun _ => 0) 1 p1) (fun _ => 0) Q
  exact ⟨fun c t2 e2 => by rw [e2]; exact h1 c, fun c => h0 c⟩
theorem ha_8 (x : Int32) : kp8 (fun u => u.1 8 = x) := ⟨fun u i v h w => (ht_nI u i v h.symm).trans w, fun _ _ _ w => w, fun _ _ _ w => w, fun _ _ _ w => w⟩
theorem hax_feed (n : Nat) (tx tm : XT) (p1 p2 p3 p4 p5 : Int32) (hJ : hJx (n + 1) tx tm) : ∃ k, wqX11_feed k tx p1 p2 p3 p4 p5 (fun r1 tx' => ∃ k', wqX12_feed k' tm p1 p2 p3 p4 p5 (fun r2 tm' => r1 = r2 ∧ hJx n tx' tm')) := by
  obtain ⟨z, x, hR, gx, hC, gy⟩ := hJ
  obtain ⟨k, w⟩ := ho_feed (p1 := p1) (p2 := p2) (p3 := p3) (p4 := p4) (p5 := p5) hR.1 hC
  obtain ⟨k', w'⟩ := hr_feed (p1 := p1) (p2 := p2) (p3 := p3) (p4 := p4) (p5 := p5) hR
  refine ⟨k, vyX11_feed (ha_0 x) gy w (fun r1 tx' h g => ⟨k', vyX12_feed (ha_8 x) gx w' (fun r2 tm' h' g' => ?_)⟩)⟩
  rcases h with ⟨a, b, i⟩ | ⟨a, b, i⟩
  · rcases h' with ⟨a', b', i'⟩ | ⟨a', b', i'⟩
    · exact ⟨b.trans b'.symm, z + 20, x, i', g', i, g⟩
    · exact absurd a a'
  · rcases h' with ⟨a', b', i'⟩ | ⟨a', b', i'⟩
    · exact absurd a' a
    · exact ⟨b.trans b'.symm, z, x, i', g', i, g⟩
theorem hax_end (n : Nat) (tx tm : XT) (p1 : Int32) (hJ : hJx (n + 1) tx tm) : ∃ k, wqX11_end k tx p1 (fun r1 tx' => ∃ k', wqX12_end k' tm p1 (fun r2 tm' => r1 = r2 ∧ hJx n tx' tm')) := by
  obtain ⟨z, x, hR, gx, hC, gy⟩ := hJ
  obtain ⟨k, w⟩ := ha_end n tx tm p1 ⟨z, hR, hC⟩
  refine ⟨k, vyX11_end (ha_0 x) gy w (fun r1 tx' h g => ?_)⟩
  obtain ⟨k', w'⟩ := h
  refine ⟨k', vyX12_end (ha_8 x) gx w' (fun r2 tm' h' g' => ?_)⟩
  obtain ⟨e, z', a, b⟩ := h'
  exact ⟨e, z', x, a, g', b, g⟩
theorem hax_complex (n : Nat) (tx tm : XT) (hJ : hJx (n + 1) tx tm) : ∃ k, wqX11_complex k tx  (fun r1 tx' => ∃ k', wqX12_complex k' tm  (fun r2 tm' => hJx n tx' tm')) := by
  obtain ⟨z, x, hR, gx, hC, gy⟩ := hJ
  obtain ⟨k, w⟩ := ho_complex  hR.1 hC
  obtain ⟨k', w'⟩ := hr_complex  hR
  refine ⟨k, vyX11_complex (ha_0 x) gy w (fun r1 tx' h g => ⟨k', vyX12_complex (ha_8 x) gx w' (fun r2 tm' h' g' => ?_)⟩)⟩
  exact ⟨0, x, h', g', h, g⟩
theorem hax_simplex (n : Nat) (tx tm : XT) (p1 p2 : Int32) (hJ : hJx (n + 1) tx tm) : ∃ k, wqX11_simplex k tx p1 p2 (fun r1 tx' => ∃ k', wqX12_simplex k' tm p1 p2 (fun r2 tm' => hJx n tx' tm')) := by
  obtain ⟨z, x, hR, gx, hC, gy⟩ := hJ
  obtain ⟨k, w⟩ := ho_simplex (p1 := p1) (p2 := p2) hC
  obtain ⟨k', w'⟩ := hr_simplex (p1 := p1) (p2 := p2) hR
  refine ⟨k, vyX11_simplex (ha_0 x) gy w (fun r1 tx' h g => ⟨k', vyX12_simplex (ha_8 x) gx w' (fun r2 tm' h' g' => ?_)⟩)⟩
  exact ⟨z, x, h', g', h, g⟩
theorem hax_number (n : Nat) (tx tm : XT) (p1 : Int32) (hJ : hJx (n + 1) tx tm) : ∃ k, wqX11_number k tx p1 (fun r1 tx' => ∃ k', wqX12_number k' tm p1 (fun r2 tm' => hJx n tx' tm')) := by
  obtain ⟨z, x, hR, gx, hC, gy⟩ := hJ
  obtain ⟨k, w⟩ := ho_number (p1 := p1) hC
  obtain ⟨k', w'⟩ := hr_number (p1 := p1) hR
  refine ⟨k, vyX11_number (ha_0 x) gy w (fun r1 tx' h g => ⟨k', vyX12_number (ha_8 x) gx w' (fun r2 tm' h' g' => ?_)⟩)⟩
  exact ⟨z, x, h', g', h, g⟩
theorem hax_sign (n : Nat) (tx tm : XT) (p1 p2 : Int32) (hJ : hJx (n + 1) tx tm) : ∃ k, wqX11_sign k tx p1 p2 (fun r1 tx' => ∃ k', wqX12_sign k' tm p1 p2 (fun r2 tm' => hJx n tx' tm')) := by
  obtain ⟨z, x, hR, gx, hC, gy⟩ := hJ
  obtain ⟨k, w⟩ := ho_sign (p1 := p1) (p2 := p2) hC
  obtain ⟨k', w'⟩ := hr_sign (p1 := p1) (p2 := p2) hR
  refine ⟨k, vyX11_sign (ha_0 x) gy w (fun r1 tx' h g => ⟨k', vyX12_sign (ha_8 x) gx w' (fun r2 tm' h' g' => ?_)⟩)⟩
  exact ⟨z, x, h', g', h, g⟩
theorem hax_pair (n : Nat) (tx tm : XT) (p1 p2 : Int32) (hJ : hJx (n + 1) tx tm) : ∃ k, wqX11_pair k tx p1 p2 (fun r1 tx' => ∃ k', wqX12_pair k' tm p1 p2 (fun r2 tm' => hJx n tx' tm')) := by
  obtain ⟨z, x, hR, gx, hC, gy⟩ := hJ
  obtain ⟨k, w⟩ := ho_pair (p1 := p1) (p2 := p2) hC
  obtain ⟨k', w'⟩ := hr_pair (p1 := p1) (p2 := p2) hR
  refine ⟨k, vyX11_pair (ha_0 x) gy w (fun r1 tx' h g => ⟨k', vyX12_pair (ha_8 x) gx w' (fun r2 tm' h' g' => ?_)⟩)⟩
  exact ⟨z, x, h', g', h, g⟩
theorem hax_part (n : Nat) (tx tm : XT) (p1 : Int32) (hJ : hJx (n + 1) tx tm) : ∃ k, wqX11_part k tx p1 (fun r1 tx' => ∃ k', wqX12_part k' tm p1 (fun r2 tm' => hJx n tx' tm')) := by
  obtain ⟨z, x, hR, gx, hC, gy⟩ := hJ
  obtain ⟨k, w⟩ := ho_part (p1 := p1) hC
  obtain ⟨k', w'⟩ := hr_part (p1 := p1) hR
  refine ⟨k, vyX11_part (ha_0 x) gy w (fun r1 tx' h g => ⟨k', vyX12_part (ha_8 x) gx w' (fun r2 tm' h' g' => ?_)⟩)⟩
  exact ⟨z, x, h', g', h, g⟩
theorem hax_auto (n : Nat) (tx tm : XT) (p1 : Int32) (hJ : hJx (n + 1) tx tm) : ∃ k, wqX11_auto k tx p1 (fun r1 tx' => ∃ k', wqX12_auto k' tm p1 (fun r2 tm' => hJx n tx' tm')) := by
  obtain ⟨z, x, hR, gx, hC, gy⟩ := hJ
  obtain ⟨k, w⟩ := ho_auto (p1 := p1) hC
  obtain ⟨k', w'⟩ := hr_auto (p1 := p1) hR
  refine ⟨k, vyX11_auto (ha_0 x) gy w (fun r1 tx' h g => ⟨k', vyX12_auto (ha_8 x) gx w' (fun r2 tm' h' g' => ?_)⟩)⟩
  exact ⟨z, x, h', g', h, g⟩
theorem hax_cancel (n : Nat) (tx tm : XT) (p1 p2 : Int32) (hJ : hJx (n + 1) tx tm) : ∃ k, wqX11_cancel k tx p1 p2 (fun r1 tx' => ∃ k', wqX12_cancel k' tm p1 p2 (fun r2 tm' => hJx n tx' tm')) := by
  obtain ⟨z, x, hR, gx, hC, gy⟩ := hJ
  obtain ⟨k, w⟩ := ho_cancel (p1 := p1) (p2 := p2) hC
  obtain ⟨k', w'⟩ := hr_cancel (p1 := p1) (p2 := p2) hR
  refine ⟨k, vyX11_cancel (ha_0 x) gy w (fun r1 tx' h g => ⟨k', vyX12_cancel (ha_8 x) gx w' (fun r2 tm' h' g' => ?_)⟩)⟩
  exact ⟨z, x, h', g', h, g⟩
theorem hax_collapse (n : Nat) (tx tm : XT) (p1 : Int32) (hJ : hJx (n + 1) tx tm) : ∃ k, wqX11_collapse k tx p1 (fun r1 tx' => ∃ k', wqX12_collapse k' tm p1 (fun r2 tm' => hJx n tx' tm')) := by
  obtain ⟨z, x, hR, gx, hC, gy⟩ := hJ
  obtain ⟨k, w⟩ := ho_collapse (p1 := p1) hC
  obtain ⟨k', w'⟩ := hr_collapse (p1 := p1) hR
  refine ⟨k, vyX11_collapse (ha_0 x) gy w (fun r1 tx' h g => ⟨k', vyX12_collapse (ha_8 x) gx w' (fun r2 tm' h' g' => ?_)⟩)⟩
  exact ⟨z, x, h', g', h, g⟩
theorem hax_undo (n : Nat) (tx tm : XT) (hJ : hJx (n + 1) tx tm) : ∃ k, wqX11_undo k tx  (fun r1 tx' => ∃ k', wqX12_undo k' tm  (fun r2 tm' => hJx n tx' tm')) := by
  obtain ⟨z, x, hR, gx, hC, gy⟩ := hJ
  obtain ⟨k, w⟩ := ho_undo  hC
  obtain ⟨k', w'⟩ := hr_undo  hR
  refine ⟨k, vyX11_undo (ha_0 x) gy w (fun r1 tx' h g => ⟨k', vyX12_undo (ha_8 x) gx w' (fun r2 tm' h' g' => ?_)⟩)⟩
  exact ⟨z, x, h', g', h, g⟩
theorem hax_critical (n : Nat) (tx tm : XT) (p1 p2 : Int32) (hJ : hJx (n + 1) tx tm) : ∃ k, wqX11_critical k tx p1 p2 (fun r1 tx' => ∃ k', wqX12_critical k' tm p1 p2 (fun r2 tm' => hJx n tx' tm')) := by
  obtain ⟨z, x, hR, gx, hC, gy⟩ := hJ
  obtain ⟨k, w⟩ := ho_critical (p1 := p1) (p2 := p2) hC
  obtain ⟨k', w'⟩ := hr_critical (p1 := p1) (p2 := p2) hR
  refine ⟨k, vyX11_critical (ha_0 x) gy w (fun r1 tx' h g => ⟨k', vyX12_critical (ha_8 x) gx w' (fun r2 tm' h' g' => ?_)⟩)⟩
  exact ⟨z, x, h', g', h, g⟩
theorem hax_paths (n : Nat) (tx tm : XT) (p1 p2 : Int32) (hJ : hJx (n + 1) tx tm) : ∃ k, wqX11_paths k tx p1 p2 (fun r1 tx' => ∃ k', wqX12_paths k' tm p1 p2 (fun r2 tm' => hJx n tx' tm')) := by
  obtain ⟨z, x, hR, gx, hC, gy⟩ := hJ
  obtain ⟨k, w⟩ := ho_paths (p1 := p1) (p2 := p2) hC
  obtain ⟨k', w'⟩ := hr_paths (p1 := p1) (p2 := p2) hR
  refine ⟨k, vyX11_paths (ha_0 x) gy w (fun r1 tx' h g => ⟨k', vyX12_paths (ha_8 x) gx w' (fun r2 tm' h' g' => ?_)⟩)⟩
  exact ⟨z, x, h', g', h, g⟩
theorem hax_path (n : Nat) (tx tm : XT) (p1 p2 p3 p4 : Int32) (hJ : hJx (n + 1) tx tm) : ∃ k, wqX11_path k tx p1 p2 p3 p4 (fun r1 tx' => ∃ k', wqX12_path k' tm p1 p2 p3 p4 (fun r2 tm' => hJx n tx' tm')) := by
  obtain ⟨z, x, hR, gx, hC, gy⟩ := hJ
  obtain ⟨k, w⟩ := ho_path (p1 := p1) (p2 := p2) (p3 := p3) (p4 := p4) hC
  obtain ⟨k', w'⟩ := hr_path (p1 := p1) (p2 := p2) (p3 := p3) (p4 := p4) hR
  refine ⟨k, vyX11_path (ha_0 x) gy w (fun r1 tx' h g => ⟨k', vyX12_path (ha_8 x) gx w' (fun r2 tm' h' g' => ?_)⟩)⟩
  exact ⟨z, x, h', g', h, g⟩
theorem hax_incidence (n : Nat) (tx tm : XT) (p1 p2 : Int32) (hJ : hJx (n + 1) tx tm) : ∃ k, wqX11_incidence k tx p1 p2 (fun r1 tx' => ∃ k', wqX12_incidence k' tm p1 p2 (fun r2 tm' => hJx n tx' tm')) := by
  obtain ⟨z, x, hR, gx, hC, gy⟩ := hJ
  obtain ⟨k, w⟩ := ho_incidence (p1 := p1) (p2 := p2) hC
  obtain ⟨k', w'⟩ := hr_incidence (p1 := p1) (p2 := p2) hR
  refine ⟨k, vyX11_incidence (ha_0 x) gy w (fun r1 tx' h g => ⟨k', vyX12_incidence (ha_8 x) gx w' (fun r2 tm' h' g' => ?_)⟩)⟩
  exact ⟨z, x, h', g', h, g⟩
theorem hax_chain (n : Nat) (tx tm : XT) (p1 p2 : Int32) (hJ : hJx (n + 1) tx tm) : ∃ k, wqX11_chain k tx p1 p2 (fun r1 tx' => ∃ k', wqX12_chain k' tm p1 p2 (fun r2 tm' => hJx n tx' tm')) := by
  obtain ⟨z, x, hR, gx, hC, gy⟩ := hJ
  obtain ⟨k, w⟩ := ho_chain (p1 := p1) (p2 := p2) hC
  obtain ⟨k', w'⟩ := hr_chain (p1 := p1) (p2 := p2) hR
  refine ⟨k, vyX11_chain (ha_0 x) gy w (fun r1 tx' h g => ⟨k', vyX12_chain (ha_8 x) gx w' (fun r2 tm' h' g' => ?_)⟩)⟩
  exact ⟨z, x, h', g', h, g⟩
theorem hax_root (n : Nat) (tx tm : XT) (p1 p2 : Int32) (hJ : hJx (n + 1) tx tm) : ∃ k, wqX11_root k tx p1 p2 (fun r1 tx' => ∃ k', wqX12_root k' tm p1 p2 (fun r2 tm' => hJx n tx' tm')) := by
  obtain ⟨z, x, hR, gx, hC, gy⟩ := hJ
  obtain ⟨k, w⟩ := ho_root (p1 := p1) (p2 := p2) hC
  obtain ⟨k', w'⟩ := hr_root (p1 := p1) (p2 := p2) hR
  refine ⟨k, vyX11_root (ha_0 x) gy w (fun r1 tx' h g => ⟨k', vyX12_root (ha_8 x) gx w' (fun r2 tm' h' g' => ?_)⟩)⟩
  exact ⟨z, x, h', g', h, g⟩
theorem hax_through (n : Nat) (tx tm : XT) (p1 p2 p3 : Int32) (hJ : hJx (n + 1) tx tm) : ∃ k, wqX11_through k tx p1 p2 p3 (fun r1 tx' => ∃ k', wqX12_through k' tm p1 p2 p3 (fun r2 tm' => hJx n tx' tm')) := by
  obtain ⟨z, x, hR, gx, hC, gy⟩ := hJ
  obtain ⟨k, w⟩ := ho_through (p1 := p1) (p2 := p2) (p3 := p3) hC
  obtain ⟨k', w'⟩ := hr_through (p1 := p1) (p2 := p2) (p3 := p3) hR
  refine ⟨k, vyX11_through (ha_0 x) gy w (fun r1 tx' h g => ⟨k', vyX12_through (ha_8 x) gx w' (fun r2 tm' h' g' => ?_)⟩)⟩
  exact ⟨z, x, h', g', h, g⟩
theorem hax_squares (n : Nat) (tx tm : XT) (hJ : hJx (n + 1) tx tm) : ∃ k, wqX11_squares k tx  (fun r1 tx' => ∃ k', wqX12_squares k' tm  (fun r2 tm' => hJx n tx' tm')) := by
  obtain ⟨z, x, hR, gx, hC, gy⟩ := hJ
  obtain ⟨k, w⟩ := ho_squares  hC
  obtain ⟨k', w'⟩ := hr_squares  hR
  refine ⟨k, vyX11_squares (ha_0 x) gy w (fun r1 tx' h g => ⟨k', vyX12_squares (ha_8 x) gx w' (fun r2 tm' h' g' => ?_)⟩)⟩
  exact ⟨z, x, h', g', h, g⟩
theorem hax_betti {K0 : Nat} (P : hq_point K0) (n : Nat) (tx tm : XT) (p1 p2 : Int32) (hJ : hJx (n + 1) tx tm) : ∃ k, wqX11_betti k tx p1 p2 (fun r1 tx' => ∃ k', wqX12_betti k' tm p1 p2 (fun r2 tm' => hJx n tx' tm')) := by
  obtain ⟨z, x, hR, gx, hC, gy⟩ := hJ
  obtain ⟨k, w⟩ := ho_betti (p1 := p1) (p2 := p2) hC
  obtain ⟨k', w'⟩ := hr_betti P (p1 := p1) (p2 := p2) hR
  refine ⟨k, vyX11_betti (ha_0 x) gy w (fun r1 tx' h g => ⟨k', vyX12_betti (ha_8 x) gx w' (fun r2 tm' h' g' => ?_)⟩)⟩
  exact ⟨z, x, h', g', h, g⟩
theorem hax_torsion {K0 : Nat} (P : hq_point K0) (n : Nat) (tx tm : XT) (p1 p2 p3 : Int32) (hJ : hJx (n + 1) tx tm) : ∃ k, wqX11_torsion k tx p1 p2 p3 (fun r1 tx' => ∃ k', wqX12_torsion k' tm p1 p2 p3 (fun r2 tm' => hJx n tx' tm')) := by
  obtain ⟨z, x, hR, gx, hC, gy⟩ := hJ
  obtain ⟨k, w⟩ := ho_torsion (p1 := p1) (p2 := p2) (p3 := p3) hC
  obtain ⟨k', w'⟩ := hr_torsion P (p1 := p1) (p2 := p2) (p3 := p3) hR
  refine ⟨k, vyX11_torsion (ha_0 x) gy w (fun r1 tx' h g => ⟨k', vyX12_torsion (ha_8 x) gx w' (fun r2 tm' h' g' => ?_)⟩)⟩
  exact ⟨z, x, h', g', h, g⟩
theorem hax_slack {K0 : Nat} (P : hq_point K0) (n : Nat) (tx tm : XT) (p1 : Int32) (hJ : hJx (n + 1) tx tm) : ∃ k, wqX11_slack k tx p1 (fun r1 tx' => ∃ k', wqX12_slack k' tm p1 (fun r2 tm' => hJx n tx' tm')) := by
  obtain ⟨z, x, hR, gx, hC, gy⟩ := hJ
  obtain ⟨k, w⟩ := ho_slack (p1 := p1) hC
  obtain ⟨k', w'⟩ := hr_slack P (p1 := p1) hR
  refine ⟨k, vyX11_slack (ha_0 x) gy w (fun r1 tx' h g => ⟨k', vyX12_slack (ha_8 x) gx w' (fun r2 tm' h' g' => ?_)⟩)⟩
  exact ⟨z, x, h', g', h, g⟩
theorem hax_free (n : Nat) (tx tm : XT) (p1 : Int32) (hJ : hJx (n + 1) tx tm) : ∃ k, wqX11_free k tx p1 (fun r1 tx' => ∃ k', wqX12_free k' tm p1 (fun r2 tm' => hJx n tx' tm')) := by
  obtain ⟨z, x, hR, gx, hC, gy⟩ := hJ
  obtain ⟨k, w⟩ := ho_free (p1 := p1) hC
  obtain ⟨k', w'⟩ := hr_free (p1 := p1) hR
  refine ⟨k, vyX11_free (ha_0 x) gy w (fun r1 tx' h g => ⟨k', vyX12_free (ha_8 x) gx w' (fun r2 tm' h' g' => ?_)⟩)⟩
  exact ⟨z, x, h', g', h, g⟩
theorem hax_facet (n : Nat) (tx tm : XT) (p1 : Int32) (hJ : hJx (n + 1) tx tm) : ∃ k, wqX11_facet k tx p1 (fun r1 tx' => ∃ k', wqX12_facet k' tm p1 (fun r2 tm' => hJx n tx' tm')) := by
  obtain ⟨z, x, hR, gx, hC, gy⟩ := hJ
  obtain ⟨k, w⟩ := ho_facet (p1 := p1) hC
  obtain ⟨k', w'⟩ := hr_facet (p1 := p1) hR
  refine ⟨k, vyX11_facet (ha_0 x) gy w (fun r1 tx' h g => ⟨k', vyX12_facet (ha_8 x) gx w' (fun r2 tm' h' g' => ?_)⟩)⟩
  exact ⟨z, x, h', g', h, g⟩
theorem hax_link (n : Nat) (tx tm : XT) (p1 p2 : Int32) (hJ : hJx (n + 1) tx tm) : ∃ k, wqX11_link k tx p1 p2 (fun r1 tx' => ∃ k', wqX12_link k' tm p1 p2 (fun r2 tm' => hJx n tx' tm')) := by
  obtain ⟨z, x, hR, gx, hC, gy⟩ := hJ
  obtain ⟨k, w⟩ := ho_link (p1 := p1) (p2 := p2) hC
  obtain ⟨k', w'⟩ := hr_link (p1 := p1) (p2 := p2) hR
  refine ⟨k, vyX11_link (ha_0 x) gy w (fun r1 tx' h g => ⟨k', vyX12_link (ha_8 x) gx w' (fun r2 tm' h' g' => ?_)⟩)⟩
  exact ⟨z, x, h', g', h, g⟩
theorem hax_room (n : Nat) (tx tm : XT) (p1 : Int32) (hJ : hJx (n + 1) tx tm) : ∃ k, wqX11_room k tx p1 (fun r1 tx' => ∃ k', wqX12_room k' tm p1 (fun r2 tm' => hJx n tx' tm')) := by
  obtain ⟨z, x, hR, gx, hC, gy⟩ := hJ
  obtain ⟨k, w⟩ := ho_room (p1 := p1) hC
  obtain ⟨k', w'⟩ := hr_room (p1 := p1) hR
  refine ⟨k, vyX11_room (ha_0 x) gy w (fun r1 tx' h g => ⟨k', vyX12_room (ha_8 x) gx w' (fun r2 tm' h' g' => ?_)⟩)⟩
  exact ⟨z, x, h', g', h, g⟩
theorem hax_draws (n : Nat) (tx tm : XT) (p1 : Int32) (hJ : hJx (n + 1) tx tm) : ∃ k, wqX11_draws k tx p1 (fun r1 tx' => ∃ k', wqX12_draws k' tm p1 (fun r2 tm' => r1 = r2 ∧ hJx n tx' tm')) := by
  obtain ⟨z, x, hR, gx, hC, gy⟩ := hJ
  obtain ⟨k, w⟩ := ho_draws (p1 := p1) hC
  obtain ⟨hz, e0, hx, m, m', hI, hg⟩ := id hR
  have ex : wqX11_draws (k + 1) tx p1 (fun r t' => (0 ≤ p1 → r = x ∧ t'.1 0 = p1) ∧ (¬ 0 ≤ p1 → r = -1 ∧ t'.1 0 = x)) := ha_dX (fun c => ⟨fun _ => ⟨gy, rfl⟩, fun n => absurd c n⟩) (fun c => ⟨fun y => absurd y c, fun _ => ⟨rfl, gy⟩⟩)
  refine ⟨k + 1, wiX11_draws (wmX11_draws (Nat.le_succ k) (fun _ _ h => h) w) ex (fun r1 tx' h g => ⟨0 + 1, ha_dM (fun c => ?_) (fun c => ?_)⟩)⟩
  · exact ⟨(g.1 c).1.trans gx.symm, z, p1, ⟨hz, e0, c, m, m', hq_frame rfl rfl rfl rfl rfl rfl hI, hq_geo_rows rfl rfl hg⟩, rfl, h, (g.1 c).2⟩
  · exact ⟨(g.2 c).1, z, x, hR, gx, h, (g.2 c).2⟩
theorem hax_drawn (n : Nat) (tx tm : XT) (p1 p2 : Int32) (hJ : hJx (n + 1) tx tm) : ∃ k, wqX11_drawn k tx p1 p2 (fun r1 tx' => ∃ k', wqX12_drawn k' tm p1 p2 (fun r2 tm' => hJx n tx' tm')) := by
  obtain ⟨z, x, hR, gx, hC, gy⟩ := hJ
  obtain ⟨k, w⟩ := ho_drawn (p1 := p1) (p2 := p2) hC
  obtain ⟨k', w'⟩ := hr_drawn (p1 := p1) (p2 := p2) hR
  refine ⟨k, vyX11_drawn gy w (fun r1 tx' h g => ⟨k', vyX12_drawn gx w' (fun r2 tm' h' g' => ?_)⟩)⟩
  exact ⟨z, x, h', g', h, g⟩
theorem hax_level (n : Nat) (tx tm : XT) (p1 p2 : Int32) (hJ : hJx (n + 1) tx tm) : ∃ k, wqX11_level k tx p1 p2 (fun r1 tx' => ∃ k', wqX12_level k' tm p1 p2 (fun r2 tm' => hJx n tx' tm')) := by
  obtain ⟨z, x, hR, gx, hC, gy⟩ := hJ
  obtain ⟨k, w⟩ := ho_level (p1 := p1) (p2 := p2) hC
  obtain ⟨k', w'⟩ := hr_level (p1 := p1) (p2 := p2) hR
  refine ⟨k, vyX11_level (ha_0 x) gy w (fun r1 tx' h g => ⟨k', vyX12_level (ha_8 x) gx w' (fun r2 tm' h' g' => ?_)⟩)⟩
  exact ⟨z, x, h', g', h, g⟩
theorem hax_levelBetti {K0 : Nat} (P : hq_point K0) (n : Nat) (tx tm : XT) (p1 p2 : Int32) (hJ : hJx (n + 1) tx tm) : ∃ k, wqX11_levelBetti k tx p1 p2 (fun r1 tx' => ∃ k', wqX12_levelBetti k' tm p1 p2 (fun r2 tm' => hJx n tx' tm')) := by
  obtain ⟨z, x, hR, gx, hC, gy⟩ := hJ
  obtain ⟨k, w⟩ := ho_levelBetti (p1 := p1) (p2 := p2) hC
  obtain ⟨k', w'⟩ := hr_levelBetti P (p1 := p1) (p2 := p2) hR
  refine ⟨k, vyX11_levelBetti (ha_0 x) gy w (fun r1 tx' h g => ⟨k', vyX12_levelBetti (ha_8 x) gx w' (fun r2 tm' h' g' => ?_)⟩)⟩
  exact ⟨z, x, h', g', h, g⟩
theorem hax_keep (n : Nat) (tx tm : XT) (p1 : Int32) (hJ : hJx (n + 1) tx tm) : ∃ k, wqX11_keep k tx p1 (fun r1 tx' => ∃ k', wqX12_keep k' tm p1 (fun r2 tm' => hJx n tx' tm')) := by
  obtain ⟨z, x, hR, gx, hC, gy⟩ := hJ
  obtain ⟨k, w⟩ := ho_keep (p1 := p1) hC
  obtain ⟨k', w'⟩ := hr_keep (p1 := p1) hR
  refine ⟨k, vyX11_keep (ha_0 x) gy w (fun r1 tx' h g => ⟨k', vyX12_keep (ha_8 x) gx w' (fun r2 tm' h' g' => ?_)⟩)⟩
  exact ⟨z, x, h', g', h, g⟩
theorem hax_same (n : Nat) (tx tm : XT) (p1 : Int32) (hJ : hJx (n + 1) tx tm) : ∃ k, wqX11_same k tx p1 (fun r1 tx' => ∃ k', wqX12_same k' tm p1 (fun r2 tm' => hJx n tx' tm')) := by
  obtain ⟨z, x, hR, gx, hC, gy⟩ := hJ
  obtain ⟨k, w⟩ := ho_same (p1 := p1) hC
  obtain ⟨k', w'⟩ := hr_same (p1 := p1) hR
  refine ⟨k, vyX11_same (ha_0 x) gy w (fun r1 tx' h g => ⟨k', vyX12_same (ha_8 x) gx w' (fun r2 tm' h' g' => ?_)⟩)⟩
  exact ⟨z, x, h', g', h, g⟩
theorem hax_count (n : Nat) (tx tm : XT) (p1 : Int32) (hJ : hJx (n + 1) tx tm) : ∃ k, wqX11_count k tx p1 (fun r1 tx' => ∃ k', wqX12_count k' tm p1 (fun r2 tm' => hJx n tx' tm')) := by
  obtain ⟨z, x, hR, gx, hC, gy⟩ := hJ
  obtain ⟨k, w⟩ := ho_count (p1 := p1) hC
  obtain ⟨k', w'⟩ := hr_count (p1 := p1) hR
  refine ⟨k, vyX11_count (ha_0 x) gy w (fun r1 tx' h g => ⟨k', vyX12_count (ha_8 x) gx w' (fun r2 tm' h' g' => ?_)⟩)⟩
  exact ⟨z, x, h', g', h, g⟩
theorem hJx_dn (n : Nat) (tx tm : XT) (h : hJx (n + 1) tx tm) : hJx n tx tm := by
  obtain ⟨z, x, a, b, c, d⟩ := h
  exact ⟨z, x, a, b, ho_dn n tx z c, d⟩
theorem hJx_0 : hJx 513 tx0 tm0 := ⟨0, 0, hr_0, rfl, ho_0, rfl⟩
