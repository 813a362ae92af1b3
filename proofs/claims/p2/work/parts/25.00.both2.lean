/-! ===== both sides: the pairs, from one C to the next ===== -/
theorem hi_feed {C C' : XT → Nat → Prop} (hC : ∀ (t : XT) (z : Nat) (p1 p2 p3 p4 p5 : Int32), z ≤ 160 → C t z → ∃ k, wqX11_feed k t p1 p2 p3 p4 p5 (fun r t' => (z + 20 ≤ 160 ∧ r = nI (z + 20) ∧ C' t' (z + 20)) ∨ (¬ z + 20 ≤ 160 ∧ r = -1 ∧ C' t' z))) : ∀ (tx tm : XT) (p1 p2 p3 p4 p5 : Int32), hj C tx tm → ∃ k, wqX11_feed k tx p1 p2 p3 p4 p5 (fun r1 tx' => ∃ k', wqX12_feed k' tm p1 p2 p3 p4 p5 (fun r2 tm' => r1 = r2 ∧ hj C' tx' tm')) := by
  intro tx tm p1 p2 p3 p4 p5 hJ
  obtain ⟨z, hR, hc⟩ := hJ
  obtain ⟨k, w⟩ := hC tx z p1 p2 p3 p4 p5 hR.1 hc
  obtain ⟨k', w'⟩ := hr_feed (p1 := p1) (p2 := p2) (p3 := p3) (p4 := p4) (p5 := p5) hR
  refine ⟨k, wmX11_feed (Nat.le_refl k) (fun r1 tx' h => ⟨k', wmX12_feed (Nat.le_refl k') (fun r2 tm' h' => ?_) w'⟩) w⟩
  rcases h with ⟨a, b, i⟩ | ⟨a, b, i⟩
  · rcases h' with ⟨a', b', i'⟩ | ⟨a', b', i'⟩
    · exact ⟨b.trans b'.symm, z + 20, i', i⟩
    · exact absurd a a'
  · rcases h' with ⟨a', b', i'⟩ | ⟨a', b', i'⟩
    · exact absurd a' a
    · exact ⟨b.trans b'.symm, z, i', i⟩
theorem hi_end {C C' : XT → Nat → Prop} (hC : ∀ (t : XT) (z : Nat) (p1 : Int32), z ≤ 160 → C t z → ∃ k, wqX11_end k t p1 (fun r t' => (∃ y, y ≤ z ∧ p1 = nI y ∧ C' t' y) ∨ ((∀ y, y ≤ z → p1 ≠ nI y) ∧ C' t' z))) : ∀ (tx tm : XT) (p1 : Int32), hj C tx tm → ∃ k, wqX11_end k tx p1 (fun r1 tx' => ∃ k', wqX12_end k' tm p1 (fun r2 tm' => hj C' tx' tm')) := by
  intro tx tm p1 hJ
  obtain ⟨z, hR, hc⟩ := hJ
  obtain ⟨k, w⟩ := hC tx z p1 hR.1 hc
  obtain ⟨k', w'⟩ := hr_end (p1 := p1) hR
  refine ⟨k, wmX11_end (Nat.le_refl k) (fun r1 tx' h => ⟨k', wmX12_end (Nat.le_refl k') (fun r2 tm' h' => ?_) w'⟩) w⟩
  rcases h with ⟨y, a, b, i⟩ | ⟨q, i⟩
  · rcases h' with ⟨y', a', b', i'⟩ | ⟨q', i'⟩
    · obtain rfl : y = y' := (nI_eq (by have := hR.1; omega) (by have := hR.1; omega)).mp (b.symm.trans b')
      exact ⟨y, i', i⟩
    · exact absurd b (q' y a)
  · rcases h' with ⟨y', a', b', i'⟩ | ⟨q', i'⟩
    · exact absurd b' (q y' a')
    · exact ⟨z, i', i⟩
theorem hi_complex {C C' : XT → Nat → Prop} (hC : ∀ (t : XT) (z : Nat), z ≤ 160 → C t z → ∃ k, wqX11_complex k t  (fun r t' => C' t' 0)) : ∀ (tx tm : XT), hj C tx tm → ∃ k, wqX11_complex k tx  (fun r1 tx' => ∃ k', wqX12_complex k' tm  (fun r2 tm' => hj C' tx' tm')) := by
  intro tx tm  hJ
  obtain ⟨z, hR, hc⟩ := hJ
  obtain ⟨k, w⟩ := hC tx z  hR.1 hc
  obtain ⟨k', w'⟩ := hr_complex  hR
  refine ⟨k, wmX11_complex (Nat.le_refl k) (fun r1 tx' h => ⟨k', wmX12_complex (Nat.le_refl k') (fun r2 tm' h' => ?_) w'⟩) w⟩
  exact ⟨0, h', h⟩
theorem hi_simplex {C C' : XT → Nat → Prop} (hC : ∀ (t : XT) (z : Nat) (p1 p2 : Int32), C t z → ∃ k, wqX11_simplex k t p1 p2 (fun r t' => C' t' z)) : ∀ (tx tm : XT) (p1 p2 : Int32), hj C tx tm → ∃ k, wqX11_simplex k tx p1 p2 (fun r1 tx' => ∃ k', wqX12_simplex k' tm p1 p2 (fun r2 tm' => hj C' tx' tm')) := by
  intro tx tm p1 p2 hJ
  obtain ⟨z, hR, hc⟩ := hJ
  obtain ⟨k, w⟩ := hC tx z p1 p2 hc
  obtain ⟨k', w'⟩ := hr_simplex (p1 := p1) (p2 := p2) hR
  refine ⟨k, wmX11_simplex (Nat.le_refl k) (fun r1 tx' h => ⟨k', wmX12_simplex (Nat.le_refl k') (fun r2 tm' h' => ?_) w'⟩) w⟩
  exact ⟨z, h', h⟩
theorem hi_number {C C' : XT → Nat → Prop} (hC : ∀ (t : XT) (z : Nat) (p1 : Int32), C t z → ∃ k, wqX11_number k t p1 (fun r t' => C' t' z)) : ∀ (tx tm : XT) (p1 : Int32), hj C tx tm → ∃ k, wqX11_number k tx p1 (fun r1 tx' => ∃ k', wqX12_number k' tm p1 (fun r2 tm' => hj C' tx' tm')) := by
  intro tx tm p1 hJ
  obtain ⟨z, hR, hc⟩ := hJ
  obtain ⟨k, w⟩ := hC tx z p1 hc
  obtain ⟨k', w'⟩ := hr_number (p1 := p1) hR
  refine ⟨k, wmX11_number (Nat.le_refl k) (fun r1 tx' h => ⟨k', wmX12_number (Nat.le_refl k') (fun r2 tm' h' => ?_) w'⟩) w⟩
  exact ⟨z, h', h⟩
theorem hi_sign {C C' : XT → Nat → Prop} (hC : ∀ (t : XT) (z : Nat) (p1 p2 : Int32), C t z → ∃ k, wqX11_sign k t p1 p2 (fun r t' => C' t' z)) : ∀ (tx tm : XT) (p1 p2 : Int32), hj C tx tm → ∃ k, wqX11_sign k tx p1 p2 (fun r1 tx' => ∃ k', wqX12_sign k' tm p1 p2 (fun r2 tm' => hj C' tx' tm')) := by
  intro tx tm p1 p2 hJ
  obtain ⟨z, hR, hc⟩ := hJ
  obtain ⟨k, w⟩ := hC tx z p1 p2 hc
  obtain ⟨k', w'⟩ := hr_sign (p1 := p1) (p2 := p2) hR
  refine ⟨k, wmX11_sign (Nat.le_refl k) (fun r1 tx' h => ⟨k', wmX12_sign (Nat.le_refl k') (fun r2 tm' h' => ?_) w'⟩) w⟩
  exact ⟨z, h', h⟩
theorem hi_pair {C C' : XT → Nat → Prop} (hC : ∀ (t : XT) (z : Nat) (p1 p2 : Int32), C t z → ∃ k, wqX11_pair k t p1 p2 (fun r t' => C' t' z)) : ∀ (tx tm : XT) (p1 p2 : Int32), hj C tx tm → ∃ k, wqX11_pair k tx p1 p2 (fun r1 tx' => ∃ k', wqX12_pair k' tm p1 p2 (fun r2 tm' => hj C' tx' tm')) := by
  intro tx tm p1 p2 hJ
  obtain ⟨z, hR, hc⟩ := hJ
  obtain ⟨k, w⟩ := hC tx z p1 p2 hc
  obtain ⟨k', w'⟩ := hr_pair (p1 := p1) (p2 := p2) hR
  refine ⟨k, wmX11_pair (Nat.le_refl k) (fun r1 tx' h => ⟨k', wmX12_pair (Nat.le_refl k') (fun r2 tm' h' => ?_) w'⟩) w⟩
  exact ⟨z, h', h⟩
theorem hi_part {C C' : XT → Nat → Prop} (hC : ∀ (t : XT) (z : Nat) (p1 : Int32), C t z → ∃ k, wqX11_part k t p1 (fun r t' => C' t' z)) : ∀ (tx tm : XT) (p1 : Int32), hj C tx tm → ∃ k, wqX11_part k tx p1 (fun r1 tx' => ∃ k', wqX12_part k' tm p1 (fun r2 tm' => hj C' tx' tm')) := by
  intro tx tm p1 hJ
  obtain ⟨z, hR, hc⟩ := hJ
  obtain ⟨k, w⟩ := hC tx z p1 hc
  obtain ⟨k', w'⟩ := hr_part (p1 := p1) hR
  refine ⟨k, wmX11_part (Nat.le_refl k) (fun r1 tx' h => ⟨k', wmX12_part (Nat.le_refl k') (fun r2 tm' h' => ?_) w'⟩) w⟩
  exact ⟨z, h', h⟩
theorem hi_auto {C C' : XT → Nat → Prop} (hC : ∀ (t : XT) (z : Nat) (p1 : Int32), C t z → ∃ k, wqX11_auto k t p1 (fun r t' => C' t' z)) : ∀ (tx tm : XT) (p1 : Int32), hj C tx tm → ∃ k, wqX11_auto k tx p1 (fun r1 tx' => ∃ k', wqX12_auto k' tm p1 (fun r2 tm' => hj C' tx' tm')) := by
  intro tx tm p1 hJ
  obtain ⟨z, hR, hc⟩ := hJ
  obtain ⟨k, w⟩ := hC tx z p1 hc
  obtain ⟨k', w'⟩ := hr_auto (p1 := p1) hR
  refine ⟨k, wmX11_auto (Nat.le_refl k) (fun r1 tx' h => ⟨k', wmX12_auto (Nat.le_refl k') (fun r2 tm' h' => ?_) w'⟩) w⟩
  exact ⟨z, h', h⟩
theorem hi_cancel {C C' : XT → Nat → Prop} (hC : ∀ (t : XT) (z : Nat) (p1 p2 : Int32), C t z → ∃ k, wqX11_cancel k t p1 p2 (fun r t' => C' t' z)) : ∀ (tx tm : XT) (p1 p2 : Int32), hj C tx tm → ∃ k, wqX11_cancel k tx p1 p2 (fun r1 tx' => ∃ k', wqX12_cancel k' tm p1 p2 (fun r2 tm' => hj C' tx' tm')) := by
  intro tx tm p1 p2 hJ
  obtain ⟨z, hR, hc⟩ := hJ
  obtain ⟨k, w⟩ := hC tx z p1 p2 hc
  obtain ⟨k', w'⟩ := hr_cancel (p1 := p1) (p2 := p2) hR
  refine ⟨k, wmX11_cancel (Nat.le_refl k) (fun r1 tx' h => ⟨k', wmX12_cancel (Nat.le_refl k') (fun r2 tm' h' => ?_) w'⟩) w⟩
  exact ⟨z, h', h⟩
theorem hi_collapse {C C' : XT → Nat → Prop} (hC : ∀ (t : XT) (z : Nat) (p1 : Int32), C t z → ∃ k, wqX11_collapse k t p1 (fun r t' => C' t' z)) : ∀ (tx tm : XT) (p1 : Int32), hj C tx tm → ∃ k, wqX11_collapse k tx p1 (fun r1 tx' => ∃ k', wqX12_collapse k' tm p1 (fun r2 tm' => hj C' tx' tm')) := by
  intro tx tm p1 hJ
  obtain ⟨z, hR, hc⟩ := hJ
  obtain ⟨k, w⟩ := hC tx z p1 hc
  obtain ⟨k', w'⟩ := hr_collapse (p1 := p1) hR
  refine ⟨k, wmX11_collapse (Nat.le_refl k) (fun r1 tx' h => ⟨k', wmX12_collapse (Nat.le_refl k') (fun r2 tm' h' => ?_) w'⟩) w⟩
  exact ⟨z, h', h⟩
theorem hi_undo {C C' : XT → Nat → Prop} (hC : ∀ (t : XT) (z : Nat), C t z → ∃ k, wqX11_undo k t  (fun r t' => C' t' z)) : ∀ (tx tm : XT), hj C tx tm → ∃ k, wqX11_undo k tx  (fun r1 tx' => ∃ k', wqX12_undo k' tm  (fun r2 tm' => hj C' tx' tm')) := by
  intro tx tm  hJ
  obtain ⟨z, hR, hc⟩ := hJ
  obtain ⟨k, w⟩ := hC tx z  hc
  obtain ⟨k', w'⟩ := hr_undo  hR
  refine ⟨k, wmX11_undo (Nat.le_refl k) (fun r1 tx' h => ⟨k', wmX12_undo (Nat.le_refl k') (fun r2 tm' h' => ?_) w'⟩) w⟩
  exact ⟨z, h', h⟩
theorem hi_critical {C C' : XT → Nat → Prop} (hC : ∀ (t : XT) (z : Nat) (p1 p2 : Int32), C t z → ∃ k, wqX11_critical k t p1 p2 (fun r t' => C' t' z)) : ∀ (tx tm : XT) (p1 p2 : Int32), hj C tx tm → ∃ k, wqX11_critical k tx p1 p2 (fun r1 tx' => ∃ k', wqX12_critical k' tm p1 p2 (fun r2 tm' => hj C' tx' tm')) := by
  intro tx tm p1 p2 hJ
  obtain ⟨z, hR, hc⟩ := hJ
  obtain ⟨k, w⟩ := hC tx z p1 p2 hc
  obtain ⟨k', w'⟩ := hr_critical (p1 := p1) (p2 := p2) hR
  refine ⟨k, wmX11_critical (Nat.le_refl k) (fun r1 tx' h => ⟨k', wmX12_critical (Nat.le_refl k') (fun r2 tm' h' => ?_) w'⟩) w⟩
  exact ⟨z, h', h⟩
theorem hi_paths {C C' : XT → Nat → Prop} (hC : ∀ (t : XT) (z : Nat) (p1 p2 : Int32), C t z → ∃ k, wqX11_paths k t p1 p2 (fun r t' => C' t' z)) : ∀ (tx tm : XT) (p1 p2 : Int32), hj C tx tm → ∃ k, wqX11_paths k tx p1 p2 (fun r1 tx' => ∃ k', wqX12_paths k' tm p1 p2 (fun r2 tm' => hj C' tx' tm')) := by
  intro tx tm p1 p2 hJ
  obtain ⟨z, hR, hc⟩ := hJ
  obtain ⟨k, w⟩ := hC tx z p1 p2 hc
  obtain ⟨k', w'⟩ := hr_paths (p1 := p1) (p2 := p2) hR
  refine ⟨k, wmX11_paths (Nat.le_refl k) (fun r1 tx' h => ⟨k', wmX12_paths (Nat.le_refl k') (fun r2 tm' h' => ?_) w'⟩) w⟩
  exact ⟨z, h', h⟩
theorem hi_path {C C' : XT → Nat → Prop} (hC : ∀ (t : XT) (z : Nat) (p1 p2 p3 p4 : Int32), C t z → ∃ k, wqX11_path k t p1 p2 p3 p4 (fun r t' => C' t' z)) : ∀ (tx tm : XT) (p1 p2 p3 p4 : Int32), hj C tx tm → ∃ k, wqX11_path k tx p1 p2 p3 p4 (fun r1 tx' => ∃ k', wqX12_path k' tm p1 p2 p3 p4 (fun r2 tm' => hj C' tx' tm')) := by
  intro tx tm p1 p2 p3 p4 hJ
  obtain ⟨z, hR, hc⟩ := hJ
  obtain ⟨k, w⟩ := hC tx z p1 p2 p3 p4 hc
  obtain ⟨k', w'⟩ := hr_path (p1 := p1) (p2 := p2) (p3 := p3) (p4 := p4) hR
  refine ⟨k, wmX11_path (Nat.le_refl k) (fun r1 tx' h => ⟨k', wmX12_path (Nat.le_refl k') (fun r2 tm' h' => ?_) w'⟩) w⟩
  exact ⟨z, h', h⟩
theorem hi_incidence {C C' : XT → Nat → Prop} (hC : ∀ (t : XT) (z : Nat) (p1 p2 : Int32), C t z → ∃ k, wqX11_incidence k t p1 p2 (fun r t' => C' t' z)) : ∀ (tx tm : XT) (p1 p2 : Int32), hj C tx tm → ∃ k, wqX11_incidence k tx p1 p2 (fun r1 tx' => ∃ k', wqX12_incidence k' tm p1 p2 (fun r2 tm' => hj C' tx' tm')) := by
  intro tx tm p1 p2 hJ
  obtain ⟨z, hR, hc⟩ := hJ
  obtain ⟨k, w⟩ := hC tx z p1 p2 hc
  obtain ⟨k', w'⟩ := hr_incidence (p1 := p1) (p2 := p2) hR
  refine ⟨k, wmX11_incidence (Nat.le_refl k) (fun r1 tx' h => ⟨k', wmX12_incidence (Nat.le_refl k') (fun r2 tm' h' => ?_) w'⟩) w⟩
  exact ⟨z, h', h⟩
theorem hi_chain {C C' : XT → Nat → Prop} (hC : ∀ (t : XT) (z : Nat) (p1 p2 : Int32), C t z → ∃ k, wqX11_chain k t p1 p2 (fun r t' => C' t' z)) : ∀ (tx tm : XT) (p1 p2 : Int32), hj C tx tm → ∃ k, wqX11_chain k tx p1 p2 (fun r1 tx' => ∃ k', wqX12_chain k' tm p1 p2 (fun r2 tm' => hj C' tx' tm')) := by
  intro tx tm p1 p2 hJ
  obtain ⟨z, hR, hc⟩ := hJ
  obtain ⟨k, w⟩ := hC tx z p1 p2 hc
  obtain ⟨k', w'⟩ := hr_chain (p1 := p1) (p2 := p2) hR
  refine ⟨k, wmX11_chain (Nat.le_refl k) (fun r1 tx' h => ⟨k', wmX12_chain (Nat.le_refl k') (fun r2 tm' h' => ?_) w'⟩) w⟩
  exact ⟨z, h', h⟩
theorem hi_root {C C' : XT → Nat → Prop} (hC : ∀ (t : XT) (z : Nat) (p1 p2 : Int32), C t z → ∃ k, wqX11_root k t p1 p2 (fun r t' => C' t' z)) : ∀ (tx tm : XT) (p1 p2 : Int32), hj C tx tm → ∃ k, wqX11_root k tx p1 p2 (fun r1 tx' => ∃ k', wqX12_root k' tm p1 p2 (fun r2 tm' => hj C' tx' tm')) := by
  intro tx tm p1 p2 hJ
  obtain ⟨z, hR, hc⟩ := hJ
  obtain ⟨k, w⟩ := hC tx z p1 p2 hc
  obtain ⟨k', w'⟩ := hr_root (p1 := p1) (p2 := p2) hR
  refine ⟨k, wmX11_root (Nat.le_refl k) (fun r1 tx' h => ⟨k', wmX12_root (Nat.le_refl k') (fun r2 tm' h' => ?_) w'⟩) w⟩
  exact ⟨z, h', h⟩
theorem hi_through {C C' : XT → Nat → Prop} (hC : ∀ (t : XT) (z : Nat) (p1 p2 p3 : Int32), C t z → ∃ k, wqX11_through k t p1 p2 p3 (fun r t' => C' t' z)) : ∀ (tx tm : XT) (p1 p2 p3 : Int32), hj C tx tm → ∃ k, wqX11_through k tx p1 p2 p3 (fun r1 tx' => ∃ k', wqX12_through k' tm p1 p2 p3 (fun r2 tm' => hj C' tx' tm')) := by
  intro tx tm p1 p2 p3 hJ
  obtain ⟨z, hR, hc⟩ := hJ
  obtain ⟨k, w⟩ := hC tx z p1 p2 p3 hc
  obtain ⟨k', w'⟩ := hr_through (p1 := p1) (p2 := p2) (p3 := p3) hR
  refine ⟨k, wmX11_through (Nat.le_refl k) (fun r1 tx' h => ⟨k', wmX12_through (Nat.le_refl k') (fun r2 tm' h' => ?_) w'⟩) w⟩
  exact ⟨z, h', h⟩
theorem hi_squares {C C' : XT → Nat → Prop} (hC : ∀ (t : XT) (z : Nat), C t z → ∃ k, wqX11_squares k t  (fun r t' => C' t' z)) : ∀ (tx tm : XT), hj C tx tm → ∃ k, wqX11_squares k tx  (fun r1 tx' => ∃ k', wqX12_squares k' tm  (fun r2 tm' => hj C' tx' tm')) := by
  intro tx tm  hJ
  obtain ⟨z, hR, hc⟩ := hJ
  obtain ⟨k, w⟩ := hC tx z  hc
  obtain ⟨k', w'⟩ := hr_squares  hR
  refine ⟨k, wmX11_squares (Nat.le_refl k) (fun r1 tx' h => ⟨k', wmX12_squares (Nat.le_refl k') (fun r2 tm' h' => ?_) w'⟩) w⟩
  exact ⟨z, h', h⟩
theorem hi_betti {C C' : XT → Nat → Prop} {K0 : Nat} (P : hq_point K0) (hC : ∀ (t : XT) (z : Nat) (p1 p2 : Int32), C t z → ∃ k, wqX11_betti k t p1 p2 (fun r t' => C' t' z)) : ∀ (tx tm : XT) (p1 p2 : Int32), hj C tx tm → ∃ k, wqX11_betti k tx p1 p2 (fun r1 tx' => ∃ k', wqX12_betti k' tm p1 p2 (fun r2 tm' => hj C' tx' tm')) := by
  intro tx tm p1 p2 hJ
  obtain ⟨z, hR, hc⟩ := hJ
  obtain ⟨k, w⟩ := hC tx z p1 p2 hc
  obtain ⟨k', w'⟩ := hr_betti P (p1 := p1) (p2 := p2) hR
  refine ⟨k, wmX11_betti (Nat.le_refl k) (fun r1 tx' h => ⟨k', wmX12_betti (Nat.le_refl k') (fun r2 tm' h' => ?_) w'⟩) w⟩
  exact ⟨z, h', h⟩
theorem hi_torsion {C C' : XT → Nat → Prop} {K0 : Nat} (P : hq_point K0) (hC : ∀ (t : XT) (z : Nat) (p1 p2 p3 : Int32), C t z → ∃ k, wqX11_torsion k t p1 p2 p3 (fun r t' => C' t' z)) : ∀ (tx tm : XT) (p1 p2 p3 : Int32), hj C tx tm → ∃ k, wqX11_torsion k tx p1 p2 p3 (fun r1 tx' => ∃ k', wqX12_torsion k' tm p1 p2 p3 (fun r2 tm' => hj C' tx' tm')) := by
  intro tx tm p1 p2 p3 hJ
  obtain ⟨z, hR, hc⟩ := hJ
  obtain ⟨k, w⟩ := hC tx z p1 p2 p3 hc
  obtain ⟨k', w'⟩ := hr_torsion P (p1 := p1) (p2 := p2) (p3 := p3) hR
  refine ⟨k, wmX11_torsion (Nat.le_refl k) (fun r1 tx' h => ⟨k', wmX12_torsion (Nat.le_refl k') (fun r2 tm' h' => ?_) w'⟩) w⟩
  exact ⟨z, h', h⟩
theorem hi_slack {C C' : XT → Nat → Prop} {K0 : Nat} (P : hq_point K0) (hC : ∀ (t : XT) (z : Nat) (p1 : Int32), C t z → ∃ k, wqX11_slack k t p1 (fun r t' => C' t' z)) : ∀ (tx tm : XT) (p1 : Int32), hj C tx tm → ∃ k, wqX11_slack k tx p1 (fun r1 tx' => ∃ k', wqX12_slack k' tm p1 (fun r2 tm' => hj C' tx' tm')) := by
  intro tx tm p1 hJ
  obtain ⟨z, hR, hc⟩ := hJ
  obtain ⟨k, w⟩ := hC tx z p1 hc
  obtain ⟨k', w'⟩ := hr_slack P (p1 := p1) hR
  refine ⟨k, wmX11_slack (Nat.le_refl k) (fun r1 tx' h => ⟨k', wmX12_slack (Nat.le_refl k') (fun r2 tm' h' => ?_) w'⟩) w⟩
  exact ⟨z, h', h⟩
theorem hi_free {C C' : XT → Nat → Prop} (hC : ∀ (t : XT) (z : Nat) (p1 : Int32), C t z → ∃ k, wqX11_free k t p1 (fun r t' => C' t' z)) : ∀ (tx tm : XT) (p1 : Int32), hj C tx tm → ∃ k, wqX11_free k tx p1 (fun r1 tx' => ∃ k', wqX12_free k' tm p1 (fun r2 tm' => hj C' tx' tm')) := by
  intro tx tm p1 hJ
  obtain ⟨z, hR, hc⟩ := hJ
  obtain ⟨k, w⟩ := hC tx z p1 hc
  obtain ⟨k', w'⟩ := hr_free (p1 := p1) hR
  refine ⟨k, wmX11_free (Nat.le_refl k) (fun r1 tx' h => ⟨k', wmX12_free (Nat.le_refl k') (fun r2 tm' h' => ?_) w'⟩) w⟩
  exact ⟨z, h', h⟩
theorem hi_facet {C C' : XT → Nat → Prop} (hC : ∀ (t : XT) (z : Nat) (p1 : Int32), C t z → ∃ k, wqX11_facet k t p1 (fun r t' => C' t' z)) : ∀ (tx tm : XT) (p1 : Int32), hj C tx tm → ∃ k, wqX11_facet k tx p1 (fun r1 tx' => ∃ k', wqX12_facet k' tm p1 (fun r2 tm' => hj C' tx' tm')) := by
  intro tx tm p1 hJ
  obtain ⟨z, hR, hc⟩ := hJ
  obtain ⟨k, w⟩ := hC tx z p1 hc
  obtain ⟨k', w'⟩ := hr_facet (p1 := p1) hR
  refine ⟨k, wmX11_facet (Nat.le_refl k) (fun r1 tx' h => ⟨k', wmX12_facet (Nat.le_refl k') (fun r2 tm' h' => ?_) w'⟩) w⟩
  exact ⟨z, h', h⟩
theorem hi_link {C C' : XT → Nat → Prop} (hC : ∀ (t : XT) (z : Nat) (p1 p2 : Int32), C t z → ∃ k, wqX11_link k t p1 p2 (fun r t' => C' t' z)) : ∀ (tx tm : XT) (p1 p2 : Int32), hj C tx tm → ∃ k, wqX11_link k tx p1 p2 (fun r1 tx' => ∃ k', wqX12_link k' tm p1 p2 (fun r2 tm' => hj C' tx' tm')) := by
  intro tx tm p1 p2 hJ
  obtain ⟨z, hR, hc⟩ := hJ
  obtain ⟨k, w⟩ := hC tx z p1 p2 hc
  obtain ⟨k', w'⟩ := hr_link (p1 := p1) (p2 := p2) hR
  refine ⟨k, wmX11_link (Nat.le_refl k) (fun r1 tx' h => ⟨k', wmX12_link (Nat.le_refl k') (fun r2 tm' h' => ?_) w'⟩) w⟩
  exact ⟨z, h', h⟩
theorem hi_room {C C' : XT → Nat → Prop} (hC : ∀ (t : XT) (z : Nat) (p1 : Int32), C t z → ∃ k, wqX11_room k t p1 (fun r t' => C' t' z)) : ∀ (tx tm : XT) (p1 : Int32), hj C tx tm → ∃ k, wqX11_room k tx p1 (fun r1 tx' => ∃ k', wqX12_room k' tm p1 (fun r2 tm' => hj C' tx' tm')) := by
  intro tx tm p1 hJ
  obtain ⟨z, hR, hc⟩ := hJ
  obtain ⟨k, w⟩ := hC tx z p1 hc
  obtain ⟨k', w'⟩ := hr_room (p1 := p1) hR
  refine ⟨k, wmX11_room (Nat.le_refl k) (fun r1 tx' h => ⟨k', wmX12_room (Nat.le_refl k') (fun r2 tm' h' => ?_) w'⟩) w⟩
  exact ⟨z, h', h⟩
theorem hi_draws {C C' : XT → Nat → Prop} (hC : ∀ (t : XT) (z : Nat) (p1 : Int32), C t z → ∃ k, wqX11_draws k t p1 (fun r t' => C' t' z)) : ∀ (tx tm : XT) (p1 : Int32), hj C tx tm → ∃ k, wqX11_draws k tx p1 (fun r1 tx' => ∃ k', wqX12_draws k' tm p1 (fun r2 tm' => hj C' tx' tm')) := by
  intro tx tm p1 hJ
  obtain ⟨z, hR, hc⟩ := hJ
  obtain ⟨k, w⟩ := hC tx z p1 hc
  obtain ⟨k', w'⟩ := hr_draws (p1 := p1) hR
  refine ⟨k, wmX11_draws (Nat.le_refl k) (fun r1 tx' h => ⟨k', wmX12_draws (Nat.le_refl k') (fun r2 tm' h' => ?_) w'⟩) w⟩
  exact ⟨z, h', h⟩
theorem hi_drawn {C C' : XT → Nat → Prop} (hC : ∀ (t : XT) (z : Nat) (p1 p2 : Int32), C t z → ∃ k, wqX11_drawn k t p1 p2 (fun r t' => C' t' z)) : ∀ (tx tm : XT) (p1 p2 : Int32), hj C tx tm → ∃ k, wqX11_drawn k tx p1 p2 (fun r1 tx' => ∃ k', wqX12_drawn k' tm p1 p2 (fun r2 tm' => hj C' tx' tm')) := by
  intro tx tm p1 p2 hJ
  obtain ⟨z, hR, hc⟩ := hJ
  obtain ⟨k, w⟩ := hC tx z p1 p2 hc
  obtain ⟨k', w'⟩ := hr_drawn (p1 := p1) (p2 := p2) hR
  refine ⟨k, wmX11_drawn (Nat.le_refl k) (fun r1 tx' h => ⟨k', wmX12_drawn (Nat.le_refl k') (fun r2 tm' h' => ?_) w'⟩) w⟩
  exact ⟨z, h', h⟩
theorem hi_level {C C' : XT → Nat → Prop} (hC : ∀ (t : XT) (z : Nat) (p1 p2 : Int32), C t z → ∃ k, wqX11_level k t p1 p2 (fun r t' => C' t' z)) : ∀ (tx tm : XT) (p1 p2 : Int32), hj C tx tm → ∃ k, wqX11_level k tx p1 p2 (fun r1 tx' => ∃ k', wqX12_level k' tm p1 p2 (fun r2 tm' => hj C' tx' tm')) := by
  intro tx tm p1 p2 hJ
  obtain ⟨z, hR, hc⟩ := hJ
  obtain ⟨k, w⟩ := hC tx z p1 p2 hc
  obtain ⟨k', w'⟩ := hr_level (p1 := p1) (p2 := p2) hR
  refine ⟨k, wmX11_level (Nat.le_refl k) (fun r1 tx' h => ⟨k', wmX12_level (Nat.le_refl k') (fun r2 tm' h' => ?_) w'⟩) w⟩
  exact ⟨z, h', h⟩
theorem hi_levelBetti {C C' : XT → Nat → Prop} {K0 : Nat} (P : hq_point K0) (hC : ∀ (t : XT) (z : Nat) (p1 p2 : Int32), C t z → ∃ k, wqX11_levelBetti k t p1 p2 (fun r t' => C' t' z)) : ∀ (tx tm : XT) (p1 p2 : Int32), hj C tx tm → ∃ k, wqX11_levelBetti k tx p1 p2 (fun r1 tx' => ∃ k', wqX12_levelBetti k' tm p1 p2 (fun r2 tm' => hj C' tx' tm')) := by
  intro tx tm p1 p2 hJ
  obtain ⟨z, hR, hc⟩ := hJ
  obtain ⟨k, w⟩ := hC tx z p1 p2 hc
  obtain ⟨k', w'⟩ := hr_levelBetti P (p1 := p1) (p2 := p2) hR
  refine ⟨k, wmX11_levelBetti (Nat.le_refl k) (fun r1 tx' h => ⟨k', wmX12_levelBetti (Nat.le_refl k') (fun r2 tm' h' => ?_) w'⟩) w⟩
  exact ⟨z, h', h⟩
theorem hi_keep {C C' : XT → Nat → Prop} (hC : ∀ (t : XT) (z : Nat) (p1 : Int32), C t z → ∃ k, wqX11_keep k t p1 (fun r t' => C' t' z)) : ∀ (tx tm : XT) (p1 : Int32), hj C tx tm → ∃ k, wqX11_keep k tx p1 (fun r1 tx' => ∃ k', wqX12_keep k' tm p1 (fun r2 tm' => hj C' tx' tm')) := by
  intro tx tm p1 hJ
  obtain ⟨z, hR, hc⟩ := hJ
  obtain ⟨k, w⟩ := hC tx z p1 hc
  obtain ⟨k', w'⟩ := hr_keep (p1 := p1) hR
  refine ⟨k, wmX11_keep (Nat.le_refl k) (fun r1 tx' h => ⟨k', wmX12_keep (Nat.le_refl k') (fun r2 tm' h' => ?_) w'⟩) w⟩
  exact ⟨z, h', h⟩
theorem hi_same {C C' : XT → Nat → Prop} (hC : ∀ (t : XT) (z : Nat) (p1 : Int32), C t z → ∃ k, wqX11_same k t p1 (fun r t' => C' t' z)) : ∀ (tx tm : XT) (p1 : Int32), hj C tx tm → ∃ k, wqX11_same k tx p1 (fun r1 tx' => ∃ k', wqX12_same k' tm p1 (fun r2 tm' => hj C' tx' tm')) := by
  intro tx tm p1 hJ
  obtain ⟨z, hR, hc⟩ := hJ
  obtain ⟨k, w⟩ := hC tx z p1 hc
  obtain ⟨k', w'⟩ := hr_same (p1 := p1) hR
  refine ⟨k, wmX11_same (Nat.le_refl k) (fun r1 tx' h => ⟨k', wmX12_same (Nat.le_refl k') (fun r2 tm' h' => ?_) w'⟩) w⟩
  exact ⟨z, h', h⟩
theorem hi_count {C C' : XT → Nat → Prop} (hC : ∀ (t : XT) (z : Nat) (p1 : Int32), C t z → ∃ k, wqX11_count k t p1 (fun r t' => C' t' z)) : ∀ (tx tm : XT) (p1 : Int32), hj C tx tm → ∃ k, wqX11_count k tx p1 (fun r1 tx' => ∃ k', wqX12_count k' tm p1 (fun r2 tm' => hj C' tx' tm')) := by
  intro tx tm p1 hJ
  obtain ⟨z, hR, hc⟩ := hJ
  obtain ⟨k, w⟩ := hC tx z p1 hc
  obtain ⟨k', w'⟩ := hr_count (p1 := p1) hR
  refine ⟨k, wmX11_count (Nat.le_refl k) (fun r1 tx' h => ⟨k', wmX12_count (Nat.le_refl k') (fun r2 tm' h' => ?_) w'⟩) w⟩
  exact ⟨z, h', h⟩
