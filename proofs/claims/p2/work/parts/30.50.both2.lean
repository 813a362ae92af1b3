/-! ===== both sides, HEIGHTS too: level, link, root, paths, path, cancel ===== -/
theorem hbc_level (n : Nat) (tx tm : XT) (p1 p2 : Int32) (hJ : hB (n + 1) tx tm) : ∃ k, wqX11_level k tx p1 p2 (fun r1 tx' => ∃ k', wqX12_level k' tm p1 p2 (fun r2 tm' => r1 = r2 ∧ hB n tx' tm')) := by
  obtain ⟨hA, g⟩ := hJ
  obtain ⟨k, w⟩ := hac_level n tx tm p1 p2 hA g
  obtain ⟨⟨z, _, hR, _, hC, _⟩, _⟩ := id hA
  obtain ⟨k2, w2⟩ := hg_level (p1 := p1) (p2 := p2) hR.1 hC g
  exact ⟨k + k2, wiX11_level (wmX11_level (Nat.le_add_right k k2) (fun _ _ h => h) w) (wmX11_level (Nat.le_add_left k2 k) (fun _ _ h => h) w2) (fun r1 tx' h g' => by
    obtain ⟨k', w'⟩ := h
    exact ⟨k', wmX12_level (Nat.le_refl k') (fun r2 tm' h' => ⟨h'.1, h'.2, g'⟩) w'⟩)⟩
theorem hbc_link (n : Nat) (tx tm : XT) (p1 p2 : Int32) (hJ : hB (n + 1) tx tm) : ∃ k, wqX11_link k tx p1 p2 (fun r1 tx' => ∃ k', wqX12_link k' tm p1 p2 (fun r2 tm' => r1 = r2 ∧ hB n tx' tm')) := by
  obtain ⟨hA, g⟩ := hJ
  obtain ⟨k, w⟩ := hac_link n tx tm p1 p2 hA
  obtain ⟨⟨z, _, hR, _, hC, _⟩, _⟩ := id hA
  obtain ⟨k2, w2⟩ := hg_link (p1 := p1) (p2 := p2) hR.1 hC g
  exact ⟨k + k2, wiX11_link (wmX11_link (Nat.le_add_right k k2) (fun _ _ h => h) w) (wmX11_link (Nat.le_add_left k2 k) (fun _ _ h => h) w2) (fun r1 tx' h g' => by
    obtain ⟨k', w'⟩ := h
    exact ⟨k', wmX12_link (Nat.le_refl k') (fun r2 tm' h' => ⟨h'.1, h'.2, g'⟩) w'⟩)⟩
theorem hbc_root (n : Nat) (tx tm : XT) (p1 p2 : Int32) (hJ : hB (n + 1) tx tm) : ∃ k, wqX11_root k tx p1 p2 (fun r1 tx' => ∃ k', wqX12_root k' tm p1 p2 (fun r2 tm' => r1 = r2 ∧ hB n tx' tm')) := by
  obtain ⟨hA, g⟩ := hJ
  obtain ⟨k, w⟩ := hac_root n tx tm p1 p2 hA
  obtain ⟨⟨z, _, hR, _, hC, _⟩, _⟩ := id hA
  obtain ⟨k2, w2⟩ := hg_root (p1 := p1) (p2 := p2) hR.1 hC g
  exact ⟨k + k2, wiX11_root (wmX11_root (Nat.le_add_right k k2) (fun _ _ h => h) w) (wmX11_root (Nat.le_add_left k2 k) (fun _ _ h => h) w2) (fun r1 tx' h g' => by
    obtain ⟨k', w'⟩ := h
    exact ⟨k', wmX12_root (Nat.le_refl k') (fun r2 tm' h' => ⟨h'.1, h'.2, g'⟩) w'⟩)⟩
theorem hbc_paths (n : Nat) (tx tm : XT) (p1 p2 : Int32) (hJ : hB (n + 1) tx tm) : ∃ k, wqX11_paths k tx p1 p2 (fun r1 tx' => ∃ k', wqX12_paths k' tm p1 p2 (fun r2 tm' => r1 = r2 ∧ hB n tx' tm')) := by
  obtain ⟨hA, g⟩ := hJ
  obtain ⟨k, w⟩ := hac_paths n tx tm p1 p2 hA g
  obtain ⟨⟨z, _, hR, _, hC, _⟩, _⟩ := id hA
  obtain ⟨k2, w2⟩ := hg_paths (p1 := p1) (p2 := p2) hR.1 hC g
  exact ⟨k + k2, wiX11_paths (wmX11_paths (Nat.le_add_right k k2) (fun _ _ h => h) w) (wmX11_paths (Nat.le_add_left k2 k) (fun _ _ h => h) w2) (fun r1 tx' h g' => by
    obtain ⟨k', w'⟩ := h
    exact ⟨k', wmX12_paths (Nat.le_refl k') (fun r2 tm' h' => ⟨h'.1, h'.2, g'⟩) w'⟩)⟩
theorem hbc_path (n : Nat) (tx tm : XT) (p1 p2 p3 p4 : Int32) (hJ : hB (n + 1) tx tm) : ∃ k, wqX11_path k tx p1 p2 p3 p4 (fun r1 tx' => ∃ k', wqX12_path k' tm p1 p2 p3 p4 (fun r2 tm' => r1 = r2 ∧ hB n tx' tm')) := by
  obtain ⟨hA, g⟩ := hJ
  obtain ⟨k, w⟩ := hac_path n tx tm p1 p2 p3 p4 hA g
  obtain ⟨⟨z, _, hR, _, hC, _⟩, _⟩ := id hA
  obtain ⟨k2, w2⟩ := hg_path (p1 := p1) (p2 := p2) (p3 := p3) (p4 := p4) hR.1 hC g
  exact ⟨k + k2, wiX11_path (wmX11_path (Nat.le_add_right k k2) (fun _ _ h => h) w) (wmX11_path (Nat.le_add_left k2 k) (fun _ _ h => h) w2) (fun r1 tx' h g' => by
    obtain ⟨k', w'⟩ := h
    exact ⟨k', wmX12_path (Nat.le_refl k') (fun r2 tm' h' => ⟨h'.1, h'.2, g'⟩) w'⟩)⟩
theorem hbc_cancel (n : Nat) (tx tm : XT) (p1 p2 : Int32) (hJ : hB (n + 1) tx tm) : ∃ k, wqX11_cancel k tx p1 p2 (fun r1 tx' => ∃ k', wqX12_cancel k' tm p1 p2 (fun r2 tm' => r1 = r2 ∧ hB n tx' tm')) := by
  obtain ⟨hA, g⟩ := hJ
  obtain ⟨k, w⟩ := hac_cancel n tx tm p1 p2 hA g
  obtain ⟨⟨z, _, hR, _, hC, _⟩, _⟩ := id hA
  obtain ⟨k2, w2⟩ := hg_cancel (p1 := p1) (p2 := p2) hR.1 hC g
  exact ⟨k + k2, wiX11_cancel (wmX11_cancel (Nat.le_add_right k k2) (fun _ _ h => h) w) (wmX11_cancel (Nat.le_add_left k2 k) (fun _ _ h => h) w2) (fun r1 tx' h g' => by
    obtain ⟨k', w'⟩ := h
    exact ⟨k', wmX12_cancel (Nat.le_refl k') (fun r2 tm' h' => ⟨h'.1, h'.2, g'⟩) w'⟩)⟩
theorem hbc_room (n : Nat) (tx tm : XT) (p1 : Int32) (hJ : hB (n + 1) tx tm) : ∃ k, wqX11_room k tx p1 (fun r1 tx' => ∃ k', wqX12_room k' tm p1 (fun r2 tm' => r1 = r2 ∧ hB n tx' tm')) := by
  obtain ⟨hA, g⟩ := hJ
  obtain ⟨k, w⟩ := hac_room n tx tm p1 hA
  obtain ⟨⟨z, _, hR, _, hC, _⟩, _⟩ := id hA
  obtain ⟨k2, w2⟩ := hg_room (p1 := p1) hR.1 hC g
  exact ⟨k + k2, wiX11_room (wmX11_room (Nat.le_add_right k k2) (fun _ _ h => h) w) (wmX11_room (Nat.le_add_left k2 k) (fun _ _ h => h) w2) (fun r1 tx' h g' => by
    obtain ⟨k', w'⟩ := h
    exact ⟨k', wmX12_room (Nat.le_refl k') (fun r2 tm' h' => ⟨h'.1, h'.2, g'⟩) w'⟩)⟩
theorem hbc_drawn (n : Nat) (tx tm : XT) (p1 p2 : Int32) (hJ : hB (n + 1) tx tm) : ∃ k, wqX11_drawn k tx p1 p2 (fun r1 tx' => ∃ k', wqX12_drawn k' tm p1 p2 (fun r2 tm' => r1 = r2 ∧ hB n tx' tm')) := by
  obtain ⟨hA, g⟩ := hJ
  obtain ⟨k, w⟩ := hac_drawn n tx tm p1 p2 hA
  obtain ⟨⟨z, _, hR, _, hC, _⟩, _⟩ := id hA
  obtain ⟨k2, w2⟩ := hg_drawn (p1 := p1) (p2 := p2) hR.1 hC g
  exact ⟨k + k2, wiX11_drawn (wmX11_drawn (Nat.le_add_right k k2) (fun _ _ h => h) w) (wmX11_drawn (Nat.le_add_left k2 k) (fun _ _ h => h) w2) (fun r1 tx' h g' => by
    obtain ⟨k', w'⟩ := h
    exact ⟨k', wmX12_drawn (Nat.le_refl k') (fun r2 tm' h' => ⟨h'.1, h'.2, g'⟩) w'⟩)⟩
theorem hbc_number (n : Nat) (tx tm : XT) (p1 : Int32) (hJ : hB (n + 1) tx tm) : ∃ k, wqX11_number k tx p1 (fun r1 tx' => ∃ k', wqX12_number k' tm p1 (fun r2 tm' => r1 = r2 ∧ hB n tx' tm')) := by
  obtain ⟨hA, g⟩ := hJ
  obtain ⟨k, w⟩ := hac_number n tx tm p1 hA
  obtain ⟨⟨z, _, hR, _, hC, _⟩, _⟩ := id hA
  obtain ⟨k2, w2⟩ := hg_number (p1 := p1) hR.1 hC g
  exact ⟨k + k2, wiX11_number (wmX11_number (Nat.le_add_right k k2) (fun _ _ h => h) w) (wmX11_number (Nat.le_add_left k2 k) (fun _ _ h => h) w2) (fun r1 tx' h g' => by
    obtain ⟨k', w'⟩ := h
    exact ⟨k', wmX12_number (Nat.le_refl k') (fun r2 tm' h' => ⟨h'.1, h'.2, g'⟩) w'⟩)⟩
theorem hbc_sign (n : Nat) (tx tm : XT) (p1 p2 : Int32) (hJ : hB (n + 1) tx tm) : ∃ k, wqX11_sign k tx p1 p2 (fun r1 tx' => ∃ k', wqX12_sign k' tm p1 p2 (fun r2 tm' => r1 = r2 ∧ hB n tx' tm')) := by
  obtain ⟨hA, g⟩ := hJ
  obtain ⟨k, w⟩ := hac_sign n tx tm p1 p2 hA
  obtain ⟨⟨z, _, hR, _, hC, _⟩, _⟩ := id hA
  obtain ⟨k2, w2⟩ := hg_sign (p1 := p1) (p2 := p2) hR.1 hC g
  exact ⟨k + k2, wiX11_sign (wmX11_sign (Nat.le_add_right k k2) (fun _ _ h => h) w) (wmX11_sign (Nat.le_add_left k2 k) (fun _ _ h => h) w2) (fun r1 tx' h g' => by
    obtain ⟨k', w'⟩ := h
    exact ⟨k', wmX12_sign (Nat.le_refl k') (fun r2 tm' h' => ⟨h'.1, h'.2, g'⟩) w'⟩)⟩
