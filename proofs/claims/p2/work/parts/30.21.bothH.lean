/-! ===== both sides, HEIGHTS too ===== -/
def hB (n : Nat) (tx tm : XT) : Prop := hAl n tx tm ∧ hNk n tx
theorem hbc_part (n : Nat) (tx tm : XT) (p1 : Int32) (hJ : hB (n + 1) tx tm) : ∃ k, wqX11_part k tx p1 (fun r1 tx' => ∃ k', wqX12_part k' tm p1 (fun r2 tm' => r1 = r2 ∧ hB n tx' tm')) := by
  obtain ⟨hA, g⟩ := hJ
  obtain ⟨k, w⟩ := hac_part n tx tm p1 hA
  obtain ⟨⟨z, _, hR, _, hC, _⟩, _⟩ := id hA
  obtain ⟨k2, w2⟩ := hg_part (p1 := p1) hR.1 hC g
  exact ⟨k + k2, wiX11_part (wmX11_part (Nat.le_add_right k k2) (fun _ _ h => h) w) (wmX11_part (Nat.le_add_left k2 k) (fun _ _ h => h) w2) (fun r1 tx' h g' => by
    obtain ⟨k', w'⟩ := h
    exact ⟨k', wmX12_part (Nat.le_refl k') (fun r2 tm' h' => ⟨h'.1, h'.2, g'⟩) w'⟩)⟩
theorem hbc_undo (n : Nat) (tx tm : XT) (hJ : hB (n + 1) tx tm) : ∃ k, wqX11_undo k tx  (fun r1 tx' => ∃ k', wqX12_undo k' tm  (fun r2 tm' => r1 = r2 ∧ hB n tx' tm')) := by
  obtain ⟨hA, g⟩ := hJ
  obtain ⟨k, w⟩ := hac_undo n tx tm  hA
  obtain ⟨⟨z, _, hR, _, hC, _⟩, _⟩ := id hA
  obtain ⟨k2, w2⟩ := hg_undo  hR.1 hC g
  exact ⟨k + k2, wiX11_undo (wmX11_undo (Nat.le_add_right k k2) (fun _ _ h => h) w) (wmX11_undo (Nat.le_add_left k2 k) (fun _ _ h => h) w2) (fun r1 tx' h g' => by
    obtain ⟨k', w'⟩ := h
    exact ⟨k', wmX12_undo (Nat.le_refl k') (fun r2 tm' h' => ⟨h'.1, h'.2, g'⟩) w'⟩)⟩
theorem hbc_keep (n : Nat) (tx tm : XT) (p1 : Int32) (hJ : hB (n + 1) tx tm) : ∃ k, wqX11_keep k tx p1 (fun r1 tx' => ∃ k', wqX12_keep k' tm p1 (fun r2 tm' => r1 = r2 ∧ hB n tx' tm')) := by
  obtain ⟨hA, g⟩ := hJ
  obtain ⟨k, w⟩ := hac_keep n tx tm p1 hA
  obtain ⟨⟨z, _, hR, _, hC, _⟩, _⟩ := id hA
  obtain ⟨k2, w2⟩ := hg_keep (p1 := p1) hR.1 hC g
  exact ⟨k + k2, wiX11_keep (wmX11_keep (Nat.le_add_right k k2) (fun _ _ h => h) w) (wmX11_keep (Nat.le_add_left k2 k) (fun _ _ h => h) w2) (fun r1 tx' h g' => by
    obtain ⟨k', w'⟩ := h
    exact ⟨k', wmX12_keep (Nat.le_refl k') (fun r2 tm' h' => ⟨h'.1, h'.2, g'⟩) w'⟩)⟩
theorem hbc_complex (n : Nat) (tx tm : XT) (hJ : hB (n + 1) tx tm) : ∃ k, wqX11_complex k tx  (fun r1 tx' => ∃ k', wqX12_complex k' tm  (fun r2 tm' => r1 = r2 ∧ hB n tx' tm')) := by
  obtain ⟨hA, g⟩ := hJ
  obtain ⟨k, w⟩ := hac_complex n tx tm  hA
  obtain ⟨⟨z, _, hR, _, hC, _⟩, _⟩ := id hA
  obtain ⟨k2, w2⟩ := hg_complex  hR.1 hC g
  exact ⟨k + k2, wiX11_complex (wmX11_complex (Nat.le_add_right k k2) (fun _ _ h => h) w) (wmX11_complex (Nat.le_add_left k2 k) (fun _ _ h => h) w2) (fun r1 tx' h g' => by
    obtain ⟨k', w'⟩ := h
    exact ⟨k', wmX12_complex (Nat.le_refl k') (fun r2 tm' h' => ⟨h'.1, h'.2, g'⟩) w'⟩)⟩
theorem hbc_pair (n : Nat) (tx tm : XT) (p1 p2 : Int32) (hJ : hB (n + 1) tx tm) : ∃ k, wqX11_pair k tx p1 p2 (fun r1 tx' => ∃ k', wqX12_pair k' tm p1 p2 (fun r2 tm' => r1 = r2 ∧ hB n tx' tm')) := by
  obtain ⟨hA, g⟩ := hJ
  obtain ⟨k, w⟩ := hac_pair n tx tm p1 p2 hA
  obtain ⟨⟨z, _, hR, _, hC, _⟩, _⟩ := id hA
  obtain ⟨k2, w2⟩ := hg_pair (p1 := p1) (p2 := p2) hR.1 hC g
  exact ⟨k + k2, wiX11_pair (wmX11_pair (Nat.le_add_right k k2) (fun _ _ h => h) w) (wmX11_pair (Nat.le_add_left k2 k) (fun _ _ h => h) w2) (fun r1 tx' h g' => by
    obtain ⟨k', w'⟩ := h
    exact ⟨k', wmX12_pair (Nat.le_refl k') (fun r2 tm' h' => ⟨h'.1, h'.2, g'⟩) w'⟩)⟩
theorem hbc_collapse (n : Nat) (tx tm : XT) (p1 : Int32) (hJ : hB (n + 1) tx tm) : ∃ k, wqX11_collapse k tx p1 (fun r1 tx' => ∃ k', wqX12_collapse k' tm p1 (fun r2 tm' => r1 = r2 ∧ hB n tx' tm')) := by
  obtain ⟨hA, g⟩ := hJ
  obtain ⟨k, w⟩ := hac_collapse n tx tm p1 hA
  obtain ⟨⟨z, _, hR, _, hC, _⟩, _⟩ := id hA
  obtain ⟨k2, w2⟩ := hg_collapse (p1 := p1) hR.1 hC g
  exact ⟨k + k2, wiX11_collapse (wmX11_collapse (Nat.le_add_right k k2) (fun _ _ h => h) w) (wmX11_collapse (Nat.le_add_left k2 k) (fun _ _ h => h) w2) (fun r1 tx' h g' => by
    obtain ⟨k', w'⟩ := h
    exact ⟨k', wmX12_collapse (Nat.le_refl k') (fun r2 tm' h' => ⟨h'.1, h'.2, g'⟩) w'⟩)⟩
theorem hbc_critical (n : Nat) (tx tm : XT) (p1 p2 : Int32) (hJ : hB (n + 1) tx tm) : ∃ k, wqX11_critical k tx p1 p2 (fun r1 tx' => ∃ k', wqX12_critical k' tm p1 p2 (fun r2 tm' => r1 = r2 ∧ hB n tx' tm')) := by
  obtain ⟨hA, g⟩ := hJ
  obtain ⟨k, w⟩ := hac_critical n tx tm p1 p2 hA
  obtain ⟨⟨z, _, hR, _, hC, _⟩, _⟩ := id hA
  obtain ⟨k2, w2⟩ := hg_critical (p1 := p1) (p2 := p2) hR.1 hC g
  exact ⟨k + k2, wiX11_critical (wmX11_critical (Nat.le_add_right k k2) (fun _ _ h => h) w) (wmX11_critical (Nat.le_add_left k2 k) (fun _ _ h => h) w2) (fun r1 tx' h g' => by
    obtain ⟨k', w'⟩ := h
    exact ⟨k', wmX12_critical (Nat.le_refl k') (fun r2 tm' h' => ⟨h'.1, h'.2, g'⟩) w'⟩)⟩
theorem hbc_facet (n : Nat) (tx tm : XT) (p1 : Int32) (hJ : hB (n + 1) tx tm) : ∃ k, wqX11_facet k tx p1 (fun r1 tx' => ∃ k', wqX12_facet k' tm p1 (fun r2 tm' => r1 = r2 ∧ hB n tx' tm')) := by
  obtain ⟨hA, g⟩ := hJ
  obtain ⟨k, w⟩ := hac_facet n tx tm p1 hA
  obtain ⟨⟨z, _, hR, _, hC, _⟩, _⟩ := id hA
  obtain ⟨k2, w2⟩ := hg_facet (p1 := p1) hR.1 hC g
  exact ⟨k + k2, wiX11_facet (wmX11_facet (Nat.le_add_right k k2) (fun _ _ h => h) w) (wmX11_facet (Nat.le_add_left k2 k) (fun _ _ h => h) w2) (fun r1 tx' h g' => by
    obtain ⟨k', w'⟩ := h
    exact ⟨k', wmX12_facet (Nat.le_refl k') (fun r2 tm' h' => ⟨h'.1, h'.2, g'⟩) w'⟩)⟩
theorem hbc_free (n : Nat) (tx tm : XT) (p1 : Int32) (hJ : hB (n + 1) tx tm) : ∃ k, wqX11_free k tx p1 (fun r1 tx' => ∃ k', wqX12_free k' tm p1 (fun r2 tm' => r1 = r2 ∧ hB n tx' tm')) := by
  obtain ⟨hA, g⟩ := hJ
  obtain ⟨k, w⟩ := hac_free n tx tm p1 hA
  obtain ⟨⟨z, _, hR, _, hC, _⟩, _⟩ := id hA
  obtain ⟨k2, w2⟩ := hg_free (p1 := p1) hR.1 hC g
  exact ⟨k + k2, wiX11_free (wmX11_free (Nat.le_add_right k k2) (fun _ _ h => h) w) (wmX11_free (Nat.le_add_left k2 k) (fun _ _ h => h) w2) (fun r1 tx' h g' => by
    obtain ⟨k', w'⟩ := h
    exact ⟨k', wmX12_free (Nat.le_refl k') (fun r2 tm' h' => ⟨h'.1, h'.2, g'⟩) w'⟩)⟩
theorem hbc_auto (n : Nat) (tx tm : XT) (p1 : Int32) (hJ : hB (n + 1) tx tm) : ∃ k, wqX11_auto k tx p1 (fun r1 tx' => ∃ k', wqX12_auto k' tm p1 (fun r2 tm' => r1 = r2 ∧ hB n tx' tm')) := by
  obtain ⟨hA, g⟩ := hJ
  obtain ⟨k, w⟩ := hac_auto n tx tm p1 hA
  obtain ⟨⟨z, _, hR, _, hC, _⟩, _⟩ := id hA
  obtain ⟨k2, w2⟩ := hg_auto (p1 := p1) hR.1 hC g
  exact ⟨k + k2, wiX11_auto (wmX11_auto (Nat.le_add_right k k2) (fun _ _ h => h) w) (wmX11_auto (Nat.le_add_left k2 k) (fun _ _ h => h) w2) (fun r1 tx' h g' => by
    obtain ⟨k', w'⟩ := h
    exact ⟨k', wmX12_auto (Nat.le_refl k') (fun r2 tm' h' => ⟨h'.1, h'.2, g'⟩) w'⟩)⟩
theorem hbc_same (n : Nat) (tx tm : XT) (p1 : Int32) (hJ : hB (n + 1) tx tm) : ∃ k, wqX11_same k tx p1 (fun r1 tx' => ∃ k', wqX12_same k' tm p1 (fun r2 tm' => r1 = r2 ∧ hB n tx' tm')) := by
  obtain ⟨hA, g⟩ := hJ
  obtain ⟨k, w⟩ := hac_same n tx tm p1 hA
  obtain ⟨⟨z, _, hR, _, hC, _⟩, _⟩ := id hA
  obtain ⟨k2, w2⟩ := hg_same (p1 := p1) hR.1 hC g
  exact ⟨k + k2, wiX11_same (wmX11_same (Nat.le_add_right k k2) (fun _ _ h => h) w) (wmX11_same (Nat.le_add_left k2 k) (fun _ _ h => h) w2) (fun r1 tx' h g' => by
    obtain ⟨k', w'⟩ := h
    exact ⟨k', wmX12_same (Nat.le_refl k') (fun r2 tm' h' => ⟨h'.1, h'.2, g'⟩) w'⟩)⟩
theorem hbc_count (n : Nat) (tx tm : XT) (p1 : Int32) (hJ : hB (n + 1) tx tm) : ∃ k, wqX11_count k tx p1 (fun r1 tx' => ∃ k', wqX12_count k' tm p1 (fun r2 tm' => r1 = r2 ∧ hB n tx' tm')) := by
  obtain ⟨hA, g⟩ := hJ
  obtain ⟨k, w⟩ := hac_count n tx tm p1 hA
  obtain ⟨⟨z, _, hR, _, hC, _⟩, _⟩ := id hA
  obtain ⟨k2, w2⟩ := hg_count (p1 := p1) hR.1 hC g
  exact ⟨k + k2, wiX11_count (wmX11_count (Nat.le_add_right k k2) (fun _ _ h => h) w) (wmX11_count (Nat.le_add_left k2 k) (fun _ _ h => h) w2) (fun r1 tx' h g' => by
    obtain ⟨k', w'⟩ := h
    exact ⟨k', wmX12_count (Nat.le_refl k') (fun r2 tm' h' => ⟨h'.1, h'.2, g'⟩) w'⟩)⟩
theorem hbc_feed (n : Nat) (tx tm : XT) (p1 p2 p3 p4 p5 : Int32) (hJ : hB (n + 1) tx tm) : ∃ k, wqX11_feed k tx p1 p2 p3 p4 p5 (fun r1 tx' => ∃ k', wqX12_feed k' tm p1 p2 p3 p4 p5 (fun r2 tm' => r1 = r2 ∧ hB n tx' tm')) := by
  obtain ⟨hA, g⟩ := hJ
  obtain ⟨k, w⟩ := hal_feed n tx tm p1 p2 p3 p4 p5 hA
  obtain ⟨⟨z, _, hR, _, hC, _⟩, _⟩ := id hA
  obtain ⟨k2, w2⟩ := hg_feed (p1 := p1) (p2 := p2) (p3 := p3) (p4 := p4) (p5 := p5) hR.1 hC g
  exact ⟨k + k2, wiX11_feed (wmX11_feed (Nat.le_add_right k k2) (fun _ _ h => h) w) (wmX11_feed (Nat.le_add_left k2 k) (fun _ _ h => h) w2) (fun r1 tx' h g' => by
    obtain ⟨k', w'⟩ := h
    exact ⟨k', wmX12_feed (Nat.le_refl k') (fun r2 tm' h' => ⟨h'.1, h'.2, g'⟩) w'⟩)⟩
theorem hbc_end (n : Nat) (tx tm : XT) (p1 : Int32) (hJ : hB (n + 1) tx tm) : ∃ k, wqX11_end k tx p1 (fun r1 tx' => ∃ k', wqX12_end k' tm p1 (fun r2 tm' => r1 = r2 ∧ hB n tx' tm')) := by
  obtain ⟨hA, g⟩ := hJ
  obtain ⟨k, w⟩ := hal_end n tx tm p1 hA
  obtain ⟨⟨z, _, hR, _, hC, _⟩, _⟩ := id hA
  obtain ⟨k2, w2⟩ := hg_end (p1 := p1) hR.1 hC g
  exact ⟨k + k2, wiX11_end (wmX11_end (Nat.le_add_right k k2) (fun _ _ h => h) w) (wmX11_end (Nat.le_add_left k2 k) (fun _ _ h => h) w2) (fun r1 tx' h g' => by
    obtain ⟨k', w'⟩ := h
    exact ⟨k', wmX12_end (Nat.le_refl k') (fun r2 tm' h' => ⟨h'.1, h'.2, g'⟩) w'⟩)⟩
theorem hbc_draws (n : Nat) (tx tm : XT) (p1 : Int32) (hJ : hB (n + 1) tx tm) : ∃ k, wqX11_draws k tx p1 (fun r1 tx' => ∃ k', wqX12_draws k' tm p1 (fun r2 tm' => r1 = r2 ∧ hB n tx' tm')) := by
  obtain ⟨hA, g⟩ := hJ
  obtain ⟨k, w⟩ := hal_draws n tx tm p1 hA
  obtain ⟨⟨z, _, hR, _, hC, _⟩, _⟩ := id hA
  obtain ⟨k2, w2⟩ := hg_draws (p1 := p1) hR.1 hC g
  exact ⟨k + k2, wiX11_draws (wmX11_draws (Nat.le_add_right k k2) (fun _ _ h => h) w) (wmX11_draws (Nat.le_add_left k2 k) (fun _ _ h => h) w2) (fun r1 tx' h g' => by
    obtain ⟨k', w'⟩ := h
    exact ⟨k', wmX12_draws (Nat.le_refl k') (fun r2 tm' h' => ⟨h'.1, h'.2, g'⟩) w'⟩)⟩
theorem hB_dn (n : Nat) (tx tm : XT) (h : hB (n + 1) tx tm) : hB n tx tm := ⟨hAl_dn n tx tm h.1, hNk_dn n tx h.2⟩
theorem hB_0 : hB 513 tx0 tm0 := ⟨hAl_0, hNk_0⟩
