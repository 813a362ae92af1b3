/-! ===== how a call is closed ===== -/
theorem hfa_simplex {n A B : Nat} {tx tm : XT} {p1 p2 : Int32} (hJ : hAl (n + 1) tx tm) (ex : wqX11_simplex A tx p1 p2 (fun r1 _ => wqX12_simplex B tm p1 p2 (fun r2 _ => r1 = r2))) : ∃ k, wqX11_simplex k tx p1 p2 (fun r1 tx' => ∃ k', wqX12_simplex k' tm p1 p2 (fun r2 tm' => r1 = r2 ∧ hAl n tx' tm')) := by
  obtain ⟨k, w⟩ := hal_simplex n tx tm p1 p2 hJ
  refine ⟨k + A, wiX11_simplex (wmX11_simplex (Nat.le_add_right k A) (fun _ _ h => h) w) (wmX11_simplex (Nat.le_add_left A k) (fun _ _ h => h) ex) (fun r1 tx' h g => ?_)⟩
  obtain ⟨k', w'⟩ := h
  exact ⟨k' + B, wiX12_simplex (wmX12_simplex (Nat.le_add_right k' B) (fun _ _ h => h) w') (wmX12_simplex (Nat.le_add_left B k') (fun _ _ h => h) g) (fun r2 tm' h' g' => ⟨g', h'⟩)⟩
theorem hfa_number {n A B : Nat} {tx tm : XT} {p1 : Int32} (hJ : hAl (n + 1) tx tm) (ex : wqX11_number A tx p1 (fun r1 _ => wqX12_number B tm p1 (fun r2 _ => r1 = r2))) : ∃ k, wqX11_number k tx p1 (fun r1 tx' => ∃ k', wqX12_number k' tm p1 (fun r2 tm' => r1 = r2 ∧ hAl n tx' tm')) := by
  obtain ⟨k, w⟩ := hal_number n tx tm p1 hJ
  refine ⟨k + A, wiX11_number (wmX11_number (Nat.le_add_right k A) (fun _ _ h => h) w) (wmX11_number (Nat.le_add_left A k) (fun _ _ h => h) ex) (fun r1 tx' h g => ?_)⟩
  obtain ⟨k', w'⟩ := h
  exact ⟨k' + B, wiX12_number (wmX12_number (Nat.le_add_right k' B) (fun _ _ h => h) w') (wmX12_number (Nat.le_add_left B k') (fun _ _ h => h) g) (fun r2 tm' h' g' => ⟨g', h'⟩)⟩
theorem hfa_sign {n A B : Nat} {tx tm : XT} {p1 p2 : Int32} (hJ : hAl (n + 1) tx tm) (ex : wqX11_sign A tx p1 p2 (fun r1 _ => wqX12_sign B tm p1 p2 (fun r2 _ => r1 = r2))) : ∃ k, wqX11_sign k tx p1 p2 (fun r1 tx' => ∃ k', wqX12_sign k' tm p1 p2 (fun r2 tm' => r1 = r2 ∧ hAl n tx' tm')) := by
  obtain ⟨k, w⟩ := hal_sign n tx tm p1 p2 hJ
  refine ⟨k + A, wiX11_sign (wmX11_sign (Nat.le_add_right k A) (fun _ _ h => h) w) (wmX11_sign (Nat.le_add_left A k) (fun _ _ h => h) ex) (fun r1 tx' h g => ?_)⟩
  obtain ⟨k', w'⟩ := h
  exact ⟨k' + B, wiX12_sign (wmX12_sign (Nat.le_add_right k' B) (fun _ _ h => h) w') (wmX12_sign (Nat.le_add_left B k') (fun _ _ h => h) g) (fun r2 tm' h' g' => ⟨g', h'⟩)⟩
theorem hfi_pair {n c A B : Nat} {tx tm : XT} {L : Nat → Int32} {p1 p2 : Int32} (hJ : hJt (n + 1) tx tm) (hL : hnL L c) (hE : hcE tx L c) (hM : hmE tm L c) (ex : wqX11_pair A tx p1 p2 (fun r1 tx' => wqX12_pair B tm p1 p2 (fun r2 tm' => r1 = r2 ∧ hPJ tx' tm' c ∧ hHJ tx' tm' c ∧ hKJ tx' tm' c))) : ∃ k, wqX11_pair k tx p1 p2 (fun r1 tx' => ∃ k', wqX12_pair k' tm p1 p2 (fun r2 tm' => r1 = r2 ∧ hAl n tx' tm')) := by
  obtain ⟨k, w⟩ := hat_pair n tx tm p1 p2 hJ
  refine ⟨k + A, wiX11_pair (wmX11_pair (Nat.le_add_right k A) (fun _ _ h => h) (wgX11_pair (hcE_kp L c) hE w)) (wmX11_pair (Nat.le_add_left A k) (fun _ _ h => h) ex) (fun r1 tx' h g => ?_)⟩
  obtain ⟨⟨k', w'⟩, hE'⟩ := h
  exact ⟨k' + B, wiX12_pair (wmX12_pair (Nat.le_add_right k' B) (fun _ _ h => h) (ygX12_pair (hmE_kp L c) hM w')) (wmX12_pair (Nat.le_add_left B k') (fun _ _ h => h) g) (fun r2 tm' h' g' => ⟨g'.1, h'.1, c, L, hL, hE', h'.2, g'.2⟩)⟩
theorem hfi_part {n c A B : Nat} {tx tm : XT} {L : Nat → Int32} {p1 : Int32} (hJ : hJt (n + 1) tx tm) (hL : hnL L c) (hE : hcE tx L c) (hM : hmE tm L c) (ex : wqX11_part A tx p1 (fun r1 tx' => wqX12_part B tm p1 (fun r2 tm' => r1 = r2 ∧ hPJ tx' tm' c ∧ hHJ tx' tm' c ∧ hKJ tx' tm' c))) : ∃ k, wqX11_part k tx p1 (fun r1 tx' => ∃ k', wqX12_part k' tm p1 (fun r2 tm' => r1 = r2 ∧ hAl n tx' tm')) := by
  obtain ⟨k, w⟩ := hat_part n tx tm p1 hJ
  refine ⟨k + A, wiX11_part (wmX11_part (Nat.le_add_right k A) (fun _ _ h => h) (wgX11_part (hcE_kp L c) hE w)) (wmX11_part (Nat.le_add_left A k) (fun _ _ h => h) ex) (fun r1 tx' h g => ?_)⟩
  obtain ⟨⟨k', w'⟩, hE'⟩ := h
  exact ⟨k' + B, wiX12_part (wmX12_part (Nat.le_add_right k' B) (fun _ _ h => h) (ygX12_part (hmE_kp L c) hM w')) (wmX12_part (Nat.le_add_left B k') (fun _ _ h => h) g) (fun r2 tm' h' g' => ⟨g'.1, h'.1, c, L, hL, hE', h'.2, g'.2⟩)⟩
theorem hfi_auto {n c A B : Nat} {tx tm : XT} {L : Nat → Int32} {p1 : Int32} (hJ : hJt (n + 1) tx tm) (hL : hnL L c) (hE : hcE tx L c) (hM : hmE tm L c) (ex : wqX11_auto A tx p1 (fun r1 tx' => wqX12_auto B tm p1 (fun r2 tm' => r1 = r2 ∧ hPJ tx' tm' c ∧ hHJ tx' tm' c ∧ hKJ tx' tm' c))) : ∃ k, wqX11_auto k tx p1 (fun r1 tx' => ∃ k', wqX12_auto k' tm p1 (fun r2 tm' => r1 = r2 ∧ hAl n tx' tm')) := by
  obtain ⟨k, w⟩ := hat_auto n tx tm p1 hJ
  refine ⟨k + A, wiX11_auto (wmX11_auto (Nat.le_add_right k A) (fun _ _ h => h) (wgX11_auto (hcE_kp L c) hE w)) (wmX11_auto (Nat.le_add_left A k) (fun _ _ h => h) ex) (fun r1 tx' h g => ?_)⟩
  obtain ⟨⟨k', w'⟩, hE'⟩ := h
  exact ⟨k' + B, wiX12_auto (wmX12_auto (Nat.le_add_right k' B) (fun _ _ h => h) (ygX12_auto (hmE_kp L c) hM w')) (wmX12_auto (Nat.le_add_left B k') (fun _ _ h => h) g) (fun r2 tm' h' g' => ⟨g'.1, h'.1, c, L, hL, hE', h'.2, g'.2⟩)⟩
theorem hfi_cancel {n c A B : Nat} {tx tm : XT} {L : Nat → Int32} {p1 p2 : Int32} (hJ : hJt (n + 1) tx tm) (hL : hnL L c) (hE : hcE tx L c) (hM : hmE tm L c) (ex : wqX11_cancel A tx p1 p2 (fun r1 tx' => wqX12_cancel B tm p1 p2 (fun r2 tm' => r1 = r2 ∧ hPJ tx' tm' c ∧ hHJ tx' tm' c ∧ hKJ tx' tm' c))) : ∃ k, wqX11_cancel k tx p1 p2 (fun r1 tx' => ∃ k', wqX12_cancel k' tm p1 p2 (fun r2 tm' => r1 = r2 ∧ hAl n tx' tm')) := by
  obtain ⟨k, w⟩ := hat_cancel n tx tm p1 p2 hJ
  refine ⟨k + A, wiX11_cancel (wmX11_cancel (Nat.le_add_right k A) (fun _ _ h => h) (wgX11_cancel (hcE_kp L c) hE w)) (wmX11_cancel (Nat.le_add_left A k) (fun _ _ h => h) ex) (fun r1 tx' h g => ?_)⟩
  obtain ⟨⟨k', w'⟩, hE'⟩ := h
  exact ⟨k' + B, wiX12_cancel (wmX12_cancel (Nat.le_add_right k' B) (fun _ _ h => h) (ygX12_cancel (hmE_kp L c) hM w')) (wmX12_cancel (Nat.le_add_left B k') (fun _ _ h => h) g) (fun r2 tm' h' g' => ⟨g'.1, h'.1, c, L, hL, hE', h'.2, g'.2⟩)⟩
theorem hfi_collapse {n c A B : Nat} {tx tm : XT} {L : Nat → Int32} {p1 : Int32} (hJ : hJt (n + 1) tx tm) (hL : hnL L c) (hE : hcE tx L c) (hM : hmE tm L c) (ex : wqX11_collapse A tx p1 (fun r1 tx' => wqX12_collapse B tm p1 (fun r2 tm' => r1 = r2 ∧ hPJ tx' tm' c ∧ hHJ tx' tm' c ∧ hKJ tx' tm' c))) : ∃ k, wqX11_collapse k tx p1 (fun r1 tx' => ∃ k', wqX12_collapse k' tm p1 (fun r2 tm' => r1 = r2 ∧ hAl n tx' tm')) := by
  obtain ⟨k, w⟩ := hat_collapse n tx tm p1 hJ
  refine ⟨k + A, wiX11_collapse (wmX11_collapse (Nat.le_add_right k A) (fun _ _ h => h) (wgX11_collapse (hcE_kp L c) hE w)) (wmX11_collapse (Nat.le_add_left A k) (fun _ _ h => h) ex) (fun r1 tx' h g => ?_)⟩
  obtain ⟨⟨k', w'⟩, hE'⟩ := h
  exact ⟨k' + B, wiX12_collapse (wmX12_collapse (Nat.le_add_right k' B) (fun _ _ h => h) (ygX12_collapse (hmE_kp L c) hM w')) (wmX12_collapse (Nat.le_add_left B k') (fun _ _ h => h) g) (fun r2 tm' h' g' => ⟨g'.1, h'.1, c, L, hL, hE', h'.2, g'.2⟩)⟩
theorem hfi_undo {n c A B : Nat} {tx tm : XT} {L : Nat → Int32} (hJ : hJt (n + 1) tx tm) (hL : hnL L c) (hE : hcE tx L c) (hM : hmE tm L c) (ex : wqX11_undo A tx  (fun r1 tx' => wqX12_undo B tm  (fun r2 tm' => r1 = r2 ∧ hPJ tx' tm' c ∧ hHJ tx' tm' c ∧ hKJ tx' tm' c))) : ∃ k, wqX11_undo k tx  (fun r1 tx' => ∃ k', wqX12_undo k' tm  (fun r2 tm' => r1 = r2 ∧ hAl n tx' tm')) := by
  obtain ⟨k, w⟩ := hat_undo n tx tm  hJ
  refine ⟨k + A, wiX11_undo (wmX11_undo (Nat.le_add_right k A) (fun _ _ h => h) (wgX11_undo (hcE_kp L c) hE w)) (wmX11_undo (Nat.le_add_left A k) (fun _ _ h => h) ex) (fun r1 tx' h g => ?_)⟩
  obtain ⟨⟨k', w'⟩, hE'⟩ := h
  exact ⟨k' + B, wiX12_undo (wmX12_undo (Nat.le_add_right k' B) (fun _ _ h => h) (ygX12_undo (hmE_kp L c) hM w')) (wmX12_undo (Nat.le_add_left B k') (fun _ _ h => h) g) (fun r2 tm' h' g' => ⟨g'.1, h'.1, c, L, hL, hE', h'.2, g'.2⟩)⟩
theorem hfa_critical {n A B : Nat} {tx tm : XT} {p1 p2 : Int32} (hJ : hAl (n + 1) tx tm) (ex : wqX11_critical A tx p1 p2 (fun r1 _ => wqX12_critical B tm p1 p2 (fun r2 _ => r1 = r2))) : ∃ k, wqX11_critical k tx p1 p2 (fun r1 tx' => ∃ k', wqX12_critical k' tm p1 p2 (fun r2 tm' => r1 = r2 ∧ hAl n tx' tm')) := by
  obtain ⟨k, w⟩ := hal_critical n tx tm p1 p2 hJ
  refine ⟨k + A, wiX11_critical (wmX11_critical (Nat.le_add_right k A) (fun _ _ h => h) w) (wmX11_critical (Nat.le_add_left A k) (fun _ _ h => h) ex) (fun r1 tx' h g => ?_)⟩
  obtain ⟨k', w'⟩ := h
  exact ⟨k' + B, wiX12_critical (wmX12_critical (Nat.le_add_right k' B) (fun _ _ h => h) w') (wmX12_critical (Nat.le_add_left B k') (fun _ _ h => h) g) (fun r2 tm' h' g' => ⟨g', h'⟩)⟩
theorem hfa_paths {n A B : Nat} {tx tm : XT} {p1 p2 : Int32} (hJ : hAl (n + 1) tx tm) (ex : wqX11_paths A tx p1 p2 (fun r1 _ => wqX12_paths B tm p1 p2 (fun r2 _ => r1 = r2))) : ∃ k, wqX11_paths k tx p1 p2 (fun r1 tx' => ∃ k', wqX12_paths k' tm p1 p2 (fun r2 tm' => r1 = r2 ∧ hAl n tx' tm')) := by
  obtain ⟨k, w⟩ := hal_paths n tx tm p1 p2 hJ
  refine ⟨k + A, wiX11_paths (wmX11_paths (Nat.le_add_right k A) (fun _ _ h => h) w) (wmX11_paths (Nat.le_add_left A k) (fun _ _ h => h) ex) (fun r1 tx' h g => ?_)⟩
  obtain ⟨k', w'⟩ := h
  exact ⟨k' + B, wiX12_paths (wmX12_paths (Nat.le_add_right k' B) (fun _ _ h => h) w') (wmX12_paths (Nat.le_add_left B k') (fun _ _ h => h) g) (fun r2 tm' h' g' => ⟨g', h'⟩)⟩
theorem hfa_path {n A B : Nat} {tx tm : XT} {p1 p2 p3 p4 : Int32} (hJ : hAl (n + 1) tx tm) (ex : wqX11_path A tx p1 p2 p3 p4 (fun r1 _ => wqX12_path B tm p1 p2 p3 p4 (fun r2 _ => r1 = r2))) : ∃ k, wqX11_path k tx p1 p2 p3 p4 (fun r1 tx' => ∃ k', wqX12_path k' tm p1 p2 p3 p4 (fun r2 tm' => r1 = r2 ∧ hAl n tx' tm')) := by
  obtain ⟨k, w⟩ := hal_path n tx tm p1 p2 p3 p4 hJ
  refine ⟨k + A, wiX11_path (wmX11_path (Nat.le_add_right k A) (fun _ _ h => h) w) (wmX11_path (Nat.le_add_left A k) (fun _ _ h => h) ex) (fun r1 tx' h g => ?_)⟩
  obtain ⟨k', w'⟩ := h
  exact ⟨k' + B, wiX12_path (wmX12_path (Nat.le_add_right k' B) (fun _ _ h => h) w') (wmX12_path (Nat.le_add_left B k') (fun _ _ h => h) g) (fun r2 tm' h' g' => ⟨g', h'⟩)⟩
theorem hfa_incidence {n A B : Nat} {tx tm : XT} {p1 p2 : Int32} (hJ : hAl (n + 1) tx tm) (ex : wqX11_incidence A tx p1 p2 (fun r1 _ => wqX12_incidence B tm p1 p2 (fun r2 _ => r1 = r2))) : ∃ k, wqX11_incidence k tx p1 p2 (fun r1 tx' => ∃ k', wqX12_incidence k' tm p1 p2 (fun r2 tm' => r1 = r2 ∧ hAl n tx' tm')) := by
  obtain ⟨k, w⟩ := hal_incidence n tx tm p1 p2 hJ
  refine ⟨k + A, wiX11_incidence (wmX11_incidence (Nat.le_add_right k A) (fun _ _ h => h) w) (wmX11_incidence (Nat.le_add_left A k) (fun _ _ h => h) ex) (fun r1 tx' h g => ?_)⟩
  obtain ⟨k', w'⟩ := h
  exact ⟨k' + B, wiX12_incidence (wmX12_incidence (Nat.le_add_right k' B) (fun _ _ h => h) w') (wmX12_incidence (Nat.le_add_left B k') (fun _ _ h => h) g) (fun r2 tm' h' g' => ⟨g', h'⟩)⟩
theorem hfa_chain {n A B : Nat} {tx tm : XT} {p1 p2 : Int32} (hJ : hAl (n + 1) tx tm) (ex : wqX11_chain A tx p1 p2 (fun r1 _ => wqX12_chain B tm p1 p2 (fun r2 _ => r1 = r2))) : ∃ k, wqX11_chain k tx p1 p2 (fun r1 tx' => ∃ k', wqX12_chain k' tm p1 p2 (fun r2 tm' => r1 = r2 ∧ hAl n tx' tm')) := by
  obtain ⟨k, w⟩ := hal_chain n tx tm p1 p2 hJ
  refine ⟨k + A, wiX11_chain (wmX11_chain (Nat.le_add_right k A) (fun _ _ h => h) w) (wmX11_chain (Nat.le_add_left A k) (fun _ _ h => h) ex) (fun r1 tx' h g => ?_)⟩
  obtain ⟨k', w'⟩ := h
  exact ⟨k' + B, wiX12_chain (wmX12_chain (Nat.le_add_right k' B) (fun _ _ h => h) w') (wmX12_chain (Nat.le_add_left B k') (fun _ _ h => h) g) (fun r2 tm' h' g' => ⟨g', h'⟩)⟩
theorem hfa_root {n A B : Nat} {tx tm : XT} {p1 p2 : Int32} (hJ : hAl (n + 1) tx tm) (ex : wqX11_root A tx p1 p2 (fun r1 _ => wqX12_root B tm p1 p2 (fun r2 _ => r1 = r2))) : ∃ k, wqX11_root k tx p1 p2 (fun r1 tx' => ∃ k', wqX12_root k' tm p1 p2 (fun r2 tm' => r1 = r2 ∧ hAl n tx' tm')) := by
  obtain ⟨k, w⟩ := hal_root n tx tm p1 p2 hJ
  refine ⟨k + A, wiX11_root (wmX11_root (Nat.le_add_right k A) (fun _ _ h => h) w) (wmX11_root (Nat.le_add_left A k) (fun _ _ h => h) ex) (fun r1 tx' h g => ?_)⟩
  obtain ⟨k', w'⟩ := h
  exact ⟨k' + B, wiX12_root (wmX12_root (Nat.le_add_right k' B) (fun _ _ h => h) w') (wmX12_root (Nat.le_add_left B k') (fun _ _ h => h) g) (fun r2 tm' h' g' => ⟨g', h'⟩)⟩
theorem hfa_through {n A B : Nat} {tx tm : XT} {p1 p2 p3 : Int32} (hJ : hAl (n + 1) tx tm) (ex : wqX11_through A tx p1 p2 p3 (fun r1 _ => wqX12_through B tm p1 p2 p3 (fun r2 _ => r1 = r2))) : ∃ k, wqX11_through k tx p1 p2 p3 (fun r1 tx' => ∃ k', wqX12_through k' tm p1 p2 p3 (fun r2 tm' => r1 = r2 ∧ hAl n tx' tm')) := by
  obtain ⟨k, w⟩ := hal_through n tx tm p1 p2 p3 hJ
  refine ⟨k + A, wiX11_through (wmX11_through (Nat.le_add_right k A) (fun _ _ h => h) w) (wmX11_through (Nat.le_add_left A k) (fun _ _ h => h) ex) (fun r1 tx' h g => ?_)⟩
  obtain ⟨k', w'⟩ := h
  exact ⟨k' + B, wiX12_through (wmX12_through (Nat.le_add_right k' B) (fun _ _ h => h) w') (wmX12_through (Nat.le_add_left B k') (fun _ _ h => h) g) (fun r2 tm' h' g' => ⟨g', h'⟩)⟩
theorem hfa_squares {n A B : Nat} {tx tm : XT} (hJ : hAl (n + 1) tx tm) (ex : wqX11_squares A tx  (fun r1 _ => wqX12_squares B tm  (fun r2 _ => r1 = r2))) : ∃ k, wqX11_squares k tx  (fun r1 tx' => ∃ k', wqX12_squares k' tm  (fun r2 tm' => r1 = r2 ∧ hAl n tx' tm')) := by
  obtain ⟨k, w⟩ := hal_squares n tx tm  hJ
  refine ⟨k + A, wiX11_squares (wmX11_squares (Nat.le_add_right k A) (fun _ _ h => h) w) (wmX11_squares (Nat.le_add_left A k) (fun _ _ h => h) ex) (fun r1 tx' h g => ?_)⟩
  obtain ⟨k', w'⟩ := h
  exact ⟨k' + B, wiX12_squares (wmX12_squares (Nat.le_add_right k' B) (fun _ _ h => h) w') (wmX12_squares (Nat.le_add_left B k') (fun _ _ h => h) g) (fun r2 tm' h' g' => ⟨g', h'⟩)⟩
theorem hfa_free {n A B : Nat} {tx tm : XT} {p1 : Int32} (hJ : hAl (n + 1) tx tm) (ex : wqX11_free A tx p1 (fun r1 _ => wqX12_free B tm p1 (fun r2 _ => r1 = r2))) : ∃ k, wqX11_free k tx p1 (fun r1 tx' => ∃ k', wqX12_free k' tm p1 (fun r2 tm' => r1 = r2 ∧ hAl n tx' tm')) := by
  obtain ⟨k, w⟩ := hal_free n tx tm p1 hJ
  refine ⟨k + A, wiX11_free (wmX11_free (Nat.le_add_right k A) (fun _ _ h => h) w) (wmX11_free (Nat.le_add_left A k) (fun _ _ h => h) ex) (fun r1 tx' h g => ?_)⟩
  obtain ⟨k', w'⟩ := h
  exact ⟨k' + B, wiX12_free (wmX12_free (Nat.le_add_right k' B) (fun _ _ h => h) w') (wmX12_free (Nat.le_add_left B k') (fun _ _ h => h) g) (fun r2 tm' h' g' => ⟨g', h'⟩)⟩
theorem hfa_facet {n A B : Nat} {tx tm : XT} {p1 : Int32} (hJ : hAl (n + 1) tx tm) (ex : wqX11_facet A tx p1 (fun r1 _ => wqX12_facet B tm p1 (fun r2 _ => r1 = r2))) : ∃ k, wqX11_facet k tx p1 (fun r1 tx' => ∃ k', wqX12_facet k' tm p1 (fun r2 tm' => r1 = r2 ∧ hAl n tx' tm')) := by
  obtain ⟨k, w⟩ := hal_facet n tx tm p1 hJ
  refine ⟨k + A, wiX11_facet (wmX11_facet (Nat.le_add_right k A) (fun _ _ h => h) w) (wmX11_facet (Nat.le_add_left A k) (fun _ _ h => h) ex) (fun r1 tx' h g => ?_)⟩
  obtain ⟨k', w'⟩ := h
  exact ⟨k' + B, wiX12_facet (wmX12_facet (Nat.le_add_right k' B) (fun _ _ h => h) w') (wmX12_facet (Nat.le_add_left B k') (fun _ _ h => h) g) (fun r2 tm' h' g' => ⟨g', h'⟩)⟩
theorem hfa_link {n A B : Nat} {tx tm : XT} {p1 p2 : Int32} (hJ : hAl (n + 1) tx tm) (ex : wqX11_link A tx p1 p2 (fun r1 _ => wqX12_link B tm p1 p2 (fun r2 _ => r1 = r2))) : ∃ k, wqX11_link k tx p1 p2 (fun r1 tx' => ∃ k', wqX12_link k' tm p1 p2 (fun r2 tm' => r1 = r2 ∧ hAl n tx' tm')) := by
  obtain ⟨k, w⟩ := hal_link n tx tm p1 p2 hJ
  refine ⟨k + A, wiX11_link (wmX11_link (Nat.le_add_right k A) (fun _ _ h => h) w) (wmX11_link (Nat.le_add_left A k) (fun _ _ h => h) ex) (fun r1 tx' h g => ?_)⟩
  obtain ⟨k', w'⟩ := h
  exact ⟨k' + B, wiX12_link (wmX12_link (Nat.le_add_right k' B) (fun _ _ h => h) w') (wmX12_link (Nat.le_add_left B k') (fun _ _ h => h) g) (fun r2 tm' h' g' => ⟨g', h'⟩)⟩
theorem hfi_room {n c A B : Nat} {tx tm : XT} {L : Nat → Int32} {p1 : Int32} (hJ : hJt (n + 1) tx tm) (hL : hnL L c) (hE : hcE tx L c) (hM : hmE tm L c) (ex : wqX11_room A tx p1 (fun r1 tx' => wqX12_room B tm p1 (fun r2 tm' => r1 = r2 ∧ hPJ tx' tm' c ∧ hHJ tx' tm' c ∧ hKJ tx' tm' c))) : ∃ k, wqX11_room k tx p1 (fun r1 tx' => ∃ k', wqX12_room k' tm p1 (fun r2 tm' => r1 = r2 ∧ hAl n tx' tm')) := by
  obtain ⟨k, w⟩ := hat_room n tx tm p1 hJ
  refine ⟨k + A, wiX11_room (wmX11_room (Nat.le_add_right k A) (fun _ _ h => h) (wgX11_room (hcE_kp L c) hE w)) (wmX11_room (Nat.le_add_left A k) (fun _ _ h => h) ex) (fun r1 tx' h g => ?_)⟩
  obtain ⟨⟨k', w'⟩, hE'⟩ := h
  exact ⟨k' + B, wiX12_room (wmX12_room (Nat.le_add_right k' B) (fun _ _ h => h) (ygX12_room (hmE_kp L c) hM w')) (wmX12_room (Nat.le_add_left B k') (fun _ _ h => h) g) (fun r2 tm' h' g' => ⟨g'.1, h'.1, c, L, hL, hE', h'.2, g'.2⟩)⟩
theorem hfi_drawn {n c A B : Nat} {tx tm : XT} {L : Nat → Int32} {p1 p2 : Int32} (hJ : hJt (n + 1) tx tm) (hL : hnL L c) (hE : hcE tx L c) (hM : hmE tm L c) (ex : wqX11_drawn A tx p1 p2 (fun r1 tx' => wqX12_drawn B tm p1 p2 (fun r2 tm' => r1 = r2 ∧ hPJ tx' tm' c ∧ hHJ tx' tm' c ∧ hKJ tx' tm' c))) : ∃ k, wqX11_drawn k tx p1 p2 (fun r1 tx' => ∃ k', wqX12_drawn k' tm p1 p2 (fun r2 tm' => r1 = r2 ∧ hAl n tx' tm')) := by
  obtain ⟨k, w⟩ := hat_drawn n tx tm p1 p2 hJ
  refine ⟨k + A, wiX11_drawn (wmX11_drawn (Nat.le_add_right k A) (fun _ _ h => h) (wgX11_drawn (hcE_kp L c) hE w)) (wmX11_drawn (Nat.le_add_left A k) (fun _ _ h => h) ex) (fun r1 tx' h g => ?_)⟩
  obtain ⟨⟨k', w'⟩, hE'⟩ := h
  exact ⟨k' + B, wiX12_drawn (wmX12_drawn (Nat.le_add_right k' B) (fun _ _ h => h) (ygX12_drawn (hmE_kp L c) hM w')) (wmX12_drawn (Nat.le_add_left B k') (fun _ _ h => h) g) (fun r2 tm' h' g' => ⟨g'.1, h'.1, c, L, hL, hE', h'.2, g'.2⟩)⟩
theorem hfa_level {n A B : Nat} {tx tm : XT} {p1 p2 : Int32} (hJ : hAl (n + 1) tx tm) (ex : wqX11_level A tx p1 p2 (fun r1 _ => wqX12_level B tm p1 p2 (fun r2 _ => r1 = r2))) : ∃ k, wqX11_level k tx p1 p2 (fun r1 tx' => ∃ k', wqX12_level k' tm p1 p2 (fun r2 tm' => r1 = r2 ∧ hAl n tx' tm')) := by
  obtain ⟨k, w⟩ := hal_level n tx tm p1 p2 hJ
  refine ⟨k + A, wiX11_level (wmX11_level (Nat.le_add_right k A) (fun _ _ h => h) w) (wmX11_level (Nat.le_add_left A k) (fun _ _ h => h) ex) (fun r1 tx' h g => ?_)⟩
  obtain ⟨k', w'⟩ := h
  exact ⟨k' + B, wiX12_level (wmX12_level (Nat.le_add_right k' B) (fun _ _ h => h) w') (wmX12_level (Nat.le_add_left B k') (fun _ _ h => h) g) (fun r2 tm' h' g' => ⟨g', h'⟩)⟩
theorem hfi_keep {n c A B : Nat} {tx tm : XT} {L : Nat → Int32} {p1 : Int32} (hJ : hJt (n + 1) tx tm) (hL : hnL L c) (hE : hcE tx L c) (hM : hmE tm L c) (ex : wqX11_keep A tx p1 (fun r1 tx' => wqX12_keep B tm p1 (fun r2 tm' => r1 = r2 ∧ hPJ tx' tm' c ∧ hHJ tx' tm' c ∧ hKJ tx' tm' c))) : ∃ k, wqX11_keep k tx p1 (fun r1 tx' => ∃ k', wqX12_keep k' tm p1 (fun r2 tm' => r1 = r2 ∧ hAl n tx' tm')) := by
  obtain ⟨k, w⟩ := hat_keep n tx tm p1 hJ
  refine ⟨k + A, wiX11_keep (wmX11_keep (Nat.le_add_right k A) (fun _ _ h => h) (wgX11_keep (hcE_kp L c) hE w)) (wmX11_keep (Nat.le_add_left A k) (fun _ _ h => h) ex) (fun r1 tx' h g => ?_)⟩
  obtain ⟨⟨k', w'⟩, hE'⟩ := h
  exact ⟨k' + B, wiX12_keep (wmX12_keep (Nat.le_add_right k' B) (fun _ _ h => h) (ygX12_keep (hmE_kp L c) hM w')) (wmX12_keep (Nat.le_add_left B k') (fun _ _ h => h) g) (fun r2 tm' h' g' => ⟨g'.1, h'.1, c, L, hL, hE', h'.2, g'.2⟩)⟩
theorem hfa_same {n A B : Nat} {tx tm : XT} {p1 : Int32} (hJ : hAl (n + 1) tx tm) (ex : wqX11_same A tx p1 (fun r1 _ => wqX12_same B tm p1 (fun r2 _ => r1 = r2))) : ∃ k, wqX11_same k tx p1 (fun r1 tx' => ∃ k', wqX12_same k' tm p1 (fun r2 tm' => r1 = r2 ∧ hAl n tx' tm')) := by
  obtain ⟨k, w⟩ := hal_same n tx tm p1 hJ
  refine ⟨k + A, wiX11_same (wmX11_same (Nat.le_add_right k A) (fun _ _ h => h) w) (wmX11_same (Nat.le_add_left A k) (fun _ _ h => h) ex) (fun r1 tx' h g => ?_)⟩
  obtain ⟨k', w'⟩ := h
  exact ⟨k' + B, wiX12_same (wmX12_same (Nat.le_add_right k' B) (fun _ _ h => h) w') (wmX12_same (Nat.le_add_left B k') (fun _ _ h => h) g) (fun r2 tm' h' g' => ⟨g', h'⟩)⟩
theorem hfa_count {n A B : Nat} {tx tm : XT} {p1 : Int32} (hJ : hAl (n + 1) tx tm) (ex : wqX11_count A tx p1 (fun r1 _ => wqX12_count B tm p1 (fun r2 _ => r1 = r2))) : ∃ k, wqX11_count k tx p1 (fun r1 tx' => ∃ k', wqX12_count k' tm p1 (fun r2 tm' => r1 = r2 ∧ hAl n tx' tm')) := by
  obtain ⟨k, w⟩ := hal_count n tx tm p1 hJ
  refine ⟨k + A, wiX11_count (wmX11_count (Nat.le_add_right k A) (fun _ _ h => h) w) (wmX11_count (Nat.le_add_left A k) (fun _ _ h => h) ex) (fun r1 tx' h g => ?_)⟩
  obtain ⟨k', w'⟩ := h
  exact ⟨k' + B, wiX12_count (wmX12_count (Nat.le_add_right k' B) (fun _ _ h => h) w') (wmX12_count (Nat.le_add_left B k') (fun _ _ h => h) g) (fun r2 tm' h' g' => ⟨g', h'⟩)⟩
