/-! ===== number, sign: over hAl ===== -/
theorem hac_number (n : Nat) (tx tm : XT) (p1 : Int32) (hJ : hAl (n + 1) tx tm) : ∃ k, wqX11_number k tx p1 (fun r1 tx' => ∃ k', wqX12_number k' tm p1 (fun r2 tm' => r1 = r2 ∧ hAl n tx' tm')) := by
  obtain ⟨k, w⟩ := hal_number n tx tm p1 hJ
  obtain ⟨hT, c, L, hL, hE, hM, _⟩ := id hJ
  obtain ⟨k2, w2⟩ := hab_number n tx tm p1 ⟨hT, c, L, hL, hE, hM⟩
  exact ⟨k + k2, wiX11_number (wmX11_number (Nat.le_add_right k k2) (fun _ _ h => h) w) (wmX11_number (Nat.le_add_left k2 k) (fun _ _ h => h) w2) (fun r1 tx' h g => by
    obtain ⟨k', w'⟩ := h
    obtain ⟨k3, w3⟩ := g
    exact ⟨k' + k3, wiX12_number (wmX12_number (Nat.le_add_right k' k3) (fun _ _ h => h) w') (wmX12_number (Nat.le_add_left k3 k') (fun _ _ h => h) w3) (fun r2 tm' h' g' => ⟨g'.1, h'⟩)⟩)⟩
theorem hac_sign (n : Nat) (tx tm : XT) (p1 p2 : Int32) (hJ : hAl (n + 1) tx tm) : ∃ k, wqX11_sign k tx p1 p2 (fun r1 tx' => ∃ k', wqX12_sign k' tm p1 p2 (fun r2 tm' => r1 = r2 ∧ hAl n tx' tm')) := by
  obtain ⟨k, w⟩ := hal_sign n tx tm p1 p2 hJ
  obtain ⟨hT, c, L, hL, hE, hM, _⟩ := id hJ
  obtain ⟨k2, w2⟩ := hab_sign n tx tm p1 p2 ⟨hT, c, L, hL, hE, hM⟩
  exact ⟨k + k2, wiX11_sign (wmX11_sign (Nat.le_add_right k k2) (fun _ _ h => h) w) (wmX11_sign (Nat.le_add_left k2 k) (fun _ _ h => h) w2) (fun r1 tx' h g => by
    obtain ⟨k', w'⟩ := h
    obtain ⟨k3, w3⟩ := g
    exact ⟨k' + k3, wiX12_sign (wmX12_sign (Nat.le_add_right k' k3) (fun _ _ h => h) w') (wmX12_sign (Nat.le_add_left k3 k') (fun _ _ h => h) w3) (fun r2 tm' h' g' => ⟨g'.1, h'⟩)⟩)⟩
