/-! ===== both sides: what does not act keeps all of it ===== -/
theorem hal_feed (n : Nat) (tx tm : XT) (p1 p2 p3 p4 p5 : Int32) (hJ : hAl (n + 1) tx tm) : ∃ k, wqX11_feed k tx p1 p2 p3 p4 p5 (fun r1 tx' => ∃ k', wqX12_feed k' tm p1 p2 p3 p4 p5 (fun r2 tm' => r1 = r2 ∧ hAl n tx' tm')) := by
  obtain ⟨hJ, c, L, hL, hE, hM, hP, hH, hK⟩ := hJ
  obtain ⟨k, w⟩ := hat_feed n tx tm p1 p2 p3 p4 p5 hJ
  refine ⟨k, wmX11_feed (Nat.le_refl k) (fun r1 tx' h => ?_) (zgX11_feed (hpQ_kp (hpQ tx)) rfl (wgX11_feed (hcE_kp L c) hE w))⟩
  obtain ⟨⟨⟨k', w'⟩, hE'⟩, hQ'⟩ := h
  exact ⟨k', wmX12_feed (Nat.le_refl k') (fun r2 tm' h' => ⟨h'.1.1.1, h'.1.1.2, c, L, hL, hE', h'.1.2, hAl_fr hQ' h'.2 ⟨hP, hH, hK⟩⟩) (qgX12_feed (hqQ_kp (hqQ tm)) rfl (ygX12_feed (hmE_kp L c) hM w'))⟩
theorem hal_end (n : Nat) (tx tm : XT) (p1 : Int32) (hJ : hAl (n + 1) tx tm) : ∃ k, wqX11_end k tx p1 (fun r1 tx' => ∃ k', wqX12_end k' tm p1 (fun r2 tm' => r1 = r2 ∧ hAl n tx' tm')) := by
  obtain ⟨hJ, c, L, hL, hE, hM, hP, hH, hK⟩ := hJ
  obtain ⟨k, w⟩ := hat_end n tx tm p1 hJ
  refine ⟨k, wmX11_end (Nat.le_refl k) (fun r1 tx' h => ?_) (zgX11_end (hpQ_kp (hpQ tx)) rfl (wgX11_end (hcE_kp L c) hE w))⟩
  obtain ⟨⟨⟨k', w'⟩, hE'⟩, hQ'⟩ := h
  exact ⟨k', wmX12_end (Nat.le_refl k') (fun r2 tm' h' => ⟨h'.1.1.1, h'.1.1.2, c, L, hL, hE', h'.1.2, hAl_fr hQ' h'.2 ⟨hP, hH, hK⟩⟩) (qgX12_end (hqQ_kp (hqQ tm)) rfl (ygX12_end (hmE_kp L c) hM w'))⟩
theorem hal_simplex (n : Nat) (tx tm : XT) (p1 p2 : Int32) (hJ : hAl (n + 1) tx tm) : ∃ k, wqX11_simplex k tx p1 p2 (fun r1 tx' => ∃ k', wqX12_simplex k' tm p1 p2 (fun r2 tm' => hAl n tx' tm')) := by
  obtain ⟨hJ, c, L, hL, hE, hM, hP, hH, hK⟩ := hJ
  obtain ⟨k, w⟩ := hat_simplex n tx tm p1 p2 hJ
  refine ⟨k, wmX11_simplex (Nat.le_refl k) (fun r1 tx' h => ?_) (zgX11_simplex (hpQ_kp (hpQ tx)) rfl (wgX11_simplex (hcE_kp L c) hE w))⟩
  obtain ⟨⟨⟨k', w'⟩, hE'⟩, hQ'⟩ := h
  exact ⟨k', wmX12_simplex (Nat.le_refl k') (fun r2 tm' h' => ⟨h'.1.1, c, L, hL, hE', h'.1.2, hAl_fr hQ' h'.2 ⟨hP, hH, hK⟩⟩) (qgX12_simplex (hqQ_kp (hqQ tm)) rfl (ygX12_simplex (hmE_kp L c) hM w'))⟩
theorem hal_number (n : Nat) (tx tm : XT) (p1 : Int32) (hJ : hAl (n + 1) tx tm) : ∃ k, wqX11_number k tx p1 (fun r1 tx' => ∃ k', wqX12_number k' tm p1 (fun r2 tm' => hAl n tx' tm')) := by
  obtain ⟨hJ, c, L, hL, hE, hM, hP, hH, hK⟩ := hJ
  obtain ⟨k, w⟩ := hat_number n tx tm p1 hJ
  refine ⟨k, wmX11_number (Nat.le_refl k) (fun r1 tx' h => ?_) (zgX11_number (hpQ_kp (hpQ tx)) rfl (wgX11_number (hcE_kp L c) hE w))⟩
  obtain ⟨⟨⟨k', w'⟩, hE'⟩, hQ'⟩ := h
  exact ⟨k', wmX12_number (Nat.le_refl k') (fun r2 tm' h' => ⟨h'.1.1, c, L, hL, hE', h'.1.2, hAl_fr hQ' h'.2 ⟨hP, hH, hK⟩⟩) (qgX12_number (hqQ_kp (hqQ tm)) rfl (ygX12_number (hmE_kp L c) hM w'))⟩
theorem hal_sign (n : Nat) (tx tm : XT) (p1 p2 : Int32) (hJ : hAl (n + 1) tx tm) : ∃ k, wqX11_sign k tx p1 p2 (fun r1 tx' => ∃ k', wqX12_sign k' tm p1 p2 (fun r2 tm' => hAl n tx' tm')) := by
  obtain ⟨hJ, c, L, hL, hE, hM, hP, hH, hK⟩ := hJ
  obtain ⟨k, w⟩ := hat_sign n tx tm p1 p2 hJ
  refine ⟨k, wmX11_sign (Nat.le_refl k) (fun r1 tx' h => ?_) (zgX11_sign (hpQ_kp (hpQ tx)) rfl (wgX11_sign (hcE_kp L c) hE w))⟩
  obtain ⟨⟨⟨k', w'⟩, hE'⟩, hQ'⟩ := h
  exact ⟨k', wmX12_sign (Nat.le_refl k') (fun r2 tm' h' => ⟨h'.1.1, c, L, hL, hE', h'.1.2, hAl_fr hQ' h'.2 ⟨hP, hH, hK⟩⟩) (qgX12_sign (hqQ_kp (hqQ tm)) rfl (ygX12_sign (hmE_kp L c) hM w'))⟩
theorem hal_critical (n : Nat) (tx tm : XT) (p1 p2 : Int32) (hJ : hAl (n + 1) tx tm) : ∃ k, wqX11_critical k tx p1 p2 (fun r1 tx' => ∃ k', wqX12_critical k' tm p1 p2 (fun r2 tm' => hAl n tx' tm')) := by
  obtain ⟨hJ, c, L, hL, hE, hM, hP, hH, hK⟩ := hJ
  obtain ⟨k, w⟩ := hat_critical n tx tm p1 p2 hJ
  refine ⟨k, wmX11_critical (Nat.le_refl k) (fun r1 tx' h => ?_) (zgX11_critical (hpQ_kp (hpQ tx)) rfl (wgX11_critical (hcE_kp L c) hE w))⟩
  obtain ⟨⟨⟨k', w'⟩, hE'⟩, hQ'⟩ := h
  exact ⟨k', wmX12_critical (Nat.le_refl k') (fun r2 tm' h' => ⟨h'.1.1, c, L, hL, hE', h'.1.2, hAl_fr hQ' h'.2 ⟨hP, hH, hK⟩⟩) (qgX12_critical (hqQ_kp (hqQ tm)) rfl (ygX12_critical (hmE_kp L c) hM w'))⟩
theorem hal_paths (n : Nat) (tx tm : XT) (p1 p2 : Int32) (hJ : hAl (n + 1) tx tm) : ∃ k, wqX11_paths k tx p1 p2 (fun r1 tx' => ∃ k', wqX12_paths k' tm p1 p2 (fun r2 tm' => hAl n tx' tm')) := by
  obtain ⟨hJ, c, L, hL, hE, hM, hP, hH, hK⟩ := hJ
  obtain ⟨k, w⟩ := hat_paths n tx tm p1 p2 hJ
  refine ⟨k, wmX11_paths (Nat.le_refl k) (fun r1 tx' h => ?_) (zgX11_paths (hpQ_kp (hpQ tx)) rfl (wgX11_paths (hcE_kp L c) hE w))⟩
  obtain ⟨⟨⟨k', w'⟩, hE'⟩, hQ'⟩ := h
  exact ⟨k', wmX12_paths (Nat.le_refl k') (fun r2 tm' h' => ⟨h'.1.1, c, L, hL, hE', h'.1.2, hAl_fr hQ' h'.2 ⟨hP, hH, hK⟩⟩) (qgX12_paths (hqQ_kp (hqQ tm)) rfl (ygX12_paths (hmE_kp L c) hM w'))⟩
theorem hal_path (n : Nat) (tx tm : XT) (p1 p2 p3 p4 : Int32) (hJ : hAl (n + 1) tx tm) : ∃ k, wqX11_path k tx p1 p2 p3 p4 (fun r1 tx' => ∃ k', wqX12_path k' tm p1 p2 p3 p4 (fun r2 tm' => hAl n tx' tm')) := by
  obtain ⟨hJ, c, L, hL, hE, hM, hP, hH, hK⟩ := hJ
  obtain ⟨k, w⟩ := hat_path n tx tm p1 p2 p3 p4 hJ
  refine ⟨k, wmX11_path (Nat.le_refl k) (fun r1 tx' h => ?_) (zgX11_path (hpQ_kp (hpQ tx)) rfl (wgX11_path (hcE_kp L c) hE w))⟩
  obtain ⟨⟨⟨k', w'⟩, hE'⟩, hQ'⟩ := h
  exact ⟨k', wmX12_path (Nat.le_refl k') (fun r2 tm' h' => ⟨h'.1.1, c, L, hL, hE', h'.1.2, hAl_fr hQ' h'.2 ⟨hP, hH, hK⟩⟩) (qgX12_path (hqQ_kp (hqQ tm)) rfl (ygX12_path (hmE_kp L c) hM w'))⟩
theorem hal_incidence (n : Nat) (tx tm : XT) (p1 p2 : Int32) (hJ : hAl (n + 1) tx tm) : ∃ k, wqX11_incidence k tx p1 p2 (fun r1 tx' => ∃ k', wqX12_incidence k' tm p1 p2 (fun r2 tm' => hAl n tx' tm')) := by
  obtain ⟨hJ, c, L, hL, hE, hM, hP, hH, hK⟩ := hJ
  obtain ⟨k, w⟩ := hat_incidence n tx tm p1 p2 hJ
  refine ⟨k, wmX11_incidence (Nat.le_refl k) (fun r1 tx' h => ?_) (zgX11_incidence (hpQ_kp (hpQ tx)) rfl (wgX11_incidence (hcE_kp L c) hE w))⟩
  obtain ⟨⟨⟨k', w'⟩, hE'⟩, hQ'⟩ := h
  exact ⟨k', wmX12_incidence (Nat.le_refl k') (fun r2 tm' h' => ⟨h'.1.1, c, L, hL, hE', h'.1.2, hAl_fr hQ' h'.2 ⟨hP, hH, hK⟩⟩) (qgX12_incidence (hqQ_kp (hqQ tm)) rfl (ygX12_incidence (hmE_kp L c) hM w'))⟩
theorem hal_chain (n : Nat) (tx tm : XT) (p1 p2 : Int32) (hJ : hAl (n + 1) tx tm) : ∃ k, wqX11_chain k tx p1 p2 (fun r1 tx' => ∃ k', wqX12_chain k' tm p1 p2 (fun r2 tm' => hAl n tx' tm')) := by
  obtain ⟨hJ, c, L, hL, hE, hM, hP, hH, hK⟩ := hJ
  obtain ⟨k, w⟩ := hat_chain n tx tm p1 p2 hJ
  refine ⟨k, wmX11_chain (Nat.le_refl k) (fun r1 tx' h => ?_) (zgX11_chain (hpQ_kp (hpQ tx)) rfl (wgX11_chain (hcE_kp L c) hE w))⟩
  obtain ⟨⟨⟨k', w'⟩, hE'⟩, hQ'⟩ := h
  exact ⟨k', wmX12_chain (Nat.le_refl k') (fun r2 tm' h' => ⟨h'.1.1, c, L, hL, hE', h'.1.2, hAl_fr hQ' h'.2 ⟨hP, hH, hK⟩⟩) (qgX12_chain (hqQ_kp (hqQ tm)) rfl (ygX12_chain (hmE_kp L c) hM w'))⟩
theorem hal_root (n : Nat) (tx tm : XT) (p1 p2 : Int32) (hJ : hAl (n + 1) tx tm) : ∃ k, wqX11_root k tx p1 p2 (fun r1 tx' => ∃ k', wqX12_root k' tm p1 p2 (fun r2 tm' => hAl n tx' tm')) := by
  obtain ⟨hJ, c, L, hL, hE, hM, hP, hH, hK⟩ := hJ
  obtain ⟨k, w⟩ := hat_root n tx tm p1 p2 hJ
  refine ⟨k, wmX11_root (Nat.le_refl k) (fun r1 tx' h => ?_) (zgX11_root (hpQ_kp (hpQ tx)) rfl (wgX11_root (hcE_kp L c) hE w))⟩
  obtain ⟨⟨⟨k', w'⟩, hE'⟩, hQ'⟩ := h
  exact ⟨k', wmX12_root (Nat.le_refl k') (fun r2 tm' h' => ⟨h'.1.1, c, L, hL, hE', h'.1.2, hAl_fr hQ' h'.2 ⟨hP, hH, hK⟩⟩) (qgX12_root (hqQ_kp (hqQ tm)) rfl (ygX12_root (hmE_kp L c) hM w'))⟩
theorem hal_through (n : Nat) (tx tm : XT) (p1 p2 p3 : Int32) (hJ : hAl (n + 1) tx tm) : ∃ k, wqX11_through k tx p1 p2 p3 (fun r1 tx' => ∃ k', wqX12_through k' tm p1 p2 p3 (fun r2 tm' => hAl n tx' tm')) := by
  obtain ⟨hJ, c, L, hL, hE, hM, hP, hH, hK⟩ := hJ
  obtain ⟨k, w⟩ := hat_through n tx tm p1 p2 p3 hJ
  refine ⟨k, wmX11_through (Nat.le_refl k) (fun r1 tx' h => ?_) (zgX11_through (hpQ_kp (hpQ tx)) rfl (wgX11_through (hcE_kp L c) hE w))⟩
  obtain ⟨⟨⟨k', w'⟩, hE'⟩, hQ'⟩ := h
  exact ⟨k', wmX12_through (Nat.le_refl k') (fun r2 tm' h' => ⟨h'.1.1, c, L, hL, hE', h'.1.2, hAl_fr hQ' h'.2 ⟨hP, hH, hK⟩⟩) (qgX12_through (hqQ_kp (hqQ tm)) rfl (ygX12_through (hmE_kp L c) hM w'))⟩
theorem hal_squares (n : Nat) (tx tm : XT) (hJ : hAl (n + 1) tx tm) : ∃ k, wqX11_squares k tx  (fun r1 tx' => ∃ k', wqX12_squares k' tm  (fun r2 tm' => hAl n tx' tm')) := by
  obtain ⟨hJ, c, L, hL, hE, hM, hP, hH, hK⟩ := hJ
  obtain ⟨k, w⟩ := hat_squares n tx tm  hJ
  refine ⟨k, wmX11_squares (Nat.le_refl k) (fun r1 tx' h => ?_) (zgX11_squares (hpQ_kp (hpQ tx)) rfl (wgX11_squares (hcE_kp L c) hE w))⟩
  obtain ⟨⟨⟨k', w'⟩, hE'⟩, hQ'⟩ := h
  exact ⟨k', wmX12_squares (Nat.le_refl k') (fun r2 tm' h' => ⟨h'.1.1, c, L, hL, hE', h'.1.2, hAl_fr hQ' h'.2 ⟨hP, hH, hK⟩⟩) (qgX12_squares (hqQ_kp (hqQ tm)) rfl (ygX12_squares (hmE_kp L c) hM w'))⟩
theorem hal_betti {K0 : Nat} (P : hq_point K0) (n : Nat) (tx tm : XT) (p1 p2 : Int32) (hJ : hAl (n + 1) tx tm) : ∃ k, wqX11_betti k tx p1 p2 (fun r1 tx' => ∃ k', wqX12_betti k' tm p1 p2 (fun r2 tm' => hAl n tx' tm')) := by
  obtain ⟨hJ, c, L, hL, hE, hM, hP, hH, hK⟩ := hJ
  obtain ⟨k, w⟩ := hat_betti P n tx tm p1 p2 hJ
  refine ⟨k, wmX11_betti (Nat.le_refl k) (fun r1 tx' h => ?_) (zgX11_betti (hpQ_kp (hpQ tx)) rfl (wgX11_betti (hcE_kp L c) hE w))⟩
  obtain ⟨⟨⟨k', w'⟩, hE'⟩, hQ'⟩ := h
  exact ⟨k', wmX12_betti (Nat.le_refl k') (fun r2 tm' h' => ⟨h'.1.1, c, L, hL, hE', h'.1.2, hAl_fr hQ' h'.2 ⟨hP, hH, hK⟩⟩) (qgX12_betti (hqQ_kp (hqQ tm)) rfl (ygX12_betti (hmE_kp L c) hM w'))⟩
theorem hal_torsion {K0 : Nat} (P : hq_point K0) (n : Nat) (tx tm : XT) (p1 p2 p3 : Int32) (hJ : hAl (n + 1) tx tm) : ∃ k, wqX11_torsion k tx p1 p2 p3 (fun r1 tx' => ∃ k', wqX12_torsion k' tm p1 p2 p3 (fun r2 tm' => hAl n tx' tm')) := by
  obtain ⟨hJ, c, L, hL, hE, hM, hP, hH, hK⟩ := hJ
  obtain ⟨k, w⟩ := hat_torsion P n tx tm p1 p2 p3 hJ
  refine ⟨k, wmX11_torsion (Nat.le_refl k) (fun r1 tx' h => ?_) (zgX11_torsion (hpQ_kp (hpQ tx)) rfl (wgX11_torsion (hcE_kp L c) hE w))⟩
  obtain ⟨⟨⟨k', w'⟩, hE'⟩, hQ'⟩ := h
  exact ⟨k', wmX12_torsion (Nat.le_refl k') (fun r2 tm' h' => ⟨h'.1.1, c, L, hL, hE', h'.1.2, hAl_fr hQ' h'.2 ⟨hP, hH, hK⟩⟩) (qgX12_torsion (hqQ_kp (hqQ tm)) rfl (ygX12_torsion (hmE_kp L c) hM w'))⟩
theorem hal_slack {K0 : Nat} (P : hq_point K0) (n : Nat) (tx tm : XT) (p1 : Int32) (hJ : hAl (n + 1) tx tm) : ∃ k, wqX11_slack k tx p1 (fun r1 tx' => ∃ k', wqX12_slack k' tm p1 (fun r2 tm' => hAl n tx' tm')) := by
  obtain ⟨hJ, c, L, hL, hE, hM, hP, hH, hK⟩ := hJ
  obtain ⟨k, w⟩ := hat_slack P n tx tm p1 hJ
  refine ⟨k, wmX11_slack (Nat.le_refl k) (fun r1 tx' h => ?_) (zgX11_slack (hpQ_kp (hpQ tx)) rfl (wgX11_slack (hcE_kp L c) hE w))⟩
  obtain ⟨⟨⟨k', w'⟩, hE'⟩, hQ'⟩ := h
  exact ⟨k', wmX12_slack (Nat.le_refl k') (fun r2 tm' h' => ⟨h'.1.1, c, L, hL, hE', h'.1.2, hAl_fr hQ' h'.2 ⟨hP, hH, hK⟩⟩) (qgX12_slack (hqQ_kp (hqQ tm)) rfl (ygX12_slack (hmE_kp L c) hM w'))⟩
theorem hal_free (n : Nat) (tx tm : XT) (p1 : Int32) (hJ : hAl (n + 1) tx tm) : ∃ k, wqX11_free k tx p1 (fun r1 tx' => ∃ k', wqX12_free k' tm p1 (fun r2 tm' => hAl n tx' tm')) := by
  obtain ⟨hJ, c, L, hL, hE, hM, hP, hH, hK⟩ := hJ
  obtain ⟨k, w⟩ := hat_free n tx tm p1 hJ
  refine ⟨k, wmX11_free (Nat.le_refl k) (fun r1 tx' h => ?_) (zgX11_free (hpQ_kp (hpQ tx)) rfl (wgX11_free (hcE_kp L c) hE w))⟩
  obtain ⟨⟨⟨k', w'⟩, hE'⟩, hQ'⟩ := h
  exact ⟨k', wmX12_free (Nat.le_refl k') (fun r2 tm' h' => ⟨h'.1.1, c, L, hL, hE', h'.1.2, hAl_fr hQ' h'.2 ⟨hP, hH, hK⟩⟩) (qgX12_free (hqQ_kp (hqQ tm)) rfl (ygX12_free (hmE_kp L c) hM w'))⟩
theorem hal_facet (n : Nat) (tx tm : XT) (p1 : Int32) (hJ : hAl (n + 1) tx tm) : ∃ k, wqX11_facet k tx p1 (fun r1 tx' => ∃ k', wqX12_facet k' tm p1 (fun r2 tm' => hAl n tx' tm')) := by
  obtain ⟨hJ, c, L, hL, hE, hM, hP, hH, hK⟩ := hJ
  obtain ⟨k, w⟩ := hat_facet n tx tm p1 hJ
  refine ⟨k, wmX11_facet (Nat.le_refl k) (fun r1 tx' h => ?_) (zgX11_facet (hpQ_kp (hpQ tx)) rfl (wgX11_facet (hcE_kp L c) hE w))⟩
  obtain ⟨⟨⟨k', w'⟩, hE'⟩, hQ'⟩ := h
  exact ⟨k', wmX12_facet (Nat.le_refl k') (fun r2 tm' h' => ⟨h'.1.1, c, L, hL, hE', h'.1.2, hAl_fr hQ' h'.2 ⟨hP, hH, hK⟩⟩) (qgX12_facet (hqQ_kp (hqQ tm)) rfl (ygX12_facet (hmE_kp L c) hM w'))⟩
theorem hal_link (n : Nat) (tx tm : XT) (p1 p2 : Int32) (hJ : hAl (n + 1) tx tm) : ∃ k, wqX11_link k tx p1 p2 (fun r1 tx' => ∃ k', wqX12_link k' tm p1 p2 (fun r2 tm' => hAl n tx' tm')) := by
  obtain ⟨hJ, c, L, hL, hE, hM, hP, hH, hK⟩ := hJ
  obtain ⟨k, w⟩ := hat_link n tx tm p1 p2 hJ
  refine ⟨k, wmX11_link (Nat.le_refl k) (fun r1 tx' h => ?_) (zgX11_link (hpQ_kp (hpQ tx)) rfl (wgX11_link (hcE_kp L c) hE w))⟩
  obtain ⟨⟨⟨k', w'⟩, hE'⟩, hQ'⟩ := h
  exact ⟨k', wmX12_link (Nat.le_refl k') (fun r2 tm' h' => ⟨h'.1.1, c, L, hL, hE', h'.1.2, hAl_fr hQ' h'.2 ⟨hP, hH, hK⟩⟩) (qgX12_link (hqQ_kp (hqQ tm)) rfl (ygX12_link (hmE_kp L c) hM w'))⟩
theorem hal_draws (n : Nat) (tx tm : XT) (p1 : Int32) (hJ : hAl (n + 1) tx tm) : ∃ k, wqX11_draws k tx p1 (fun r1 tx' => ∃ k', wqX12_draws k' tm p1 (fun r2 tm' => r1 = r2 ∧ hAl n tx' tm')) := by
  obtain ⟨hJ, c, L, hL, hE, hM, hP, hH, hK⟩ := hJ
  obtain ⟨k, w⟩ := hat_draws n tx tm p1 hJ
  refine ⟨k, wmX11_draws (Nat.le_refl k) (fun r1 tx' h => ?_) (zgX11_draws (hpQ_kp (hpQ tx)) rfl (wgX11_draws (hcE_kp L c) hE w))⟩
  obtain ⟨⟨⟨k', w'⟩, hE'⟩, hQ'⟩ := h
  exact ⟨k', wmX12_draws (Nat.le_refl k') (fun r2 tm' h' => ⟨h'.1.1.1, h'.1.1.2, c, L, hL, hE', h'.1.2, hAl_fr hQ' h'.2 ⟨hP, hH, hK⟩⟩) (qgX12_draws (hqQ_kp (hqQ tm)) rfl (ygX12_draws (hmE_kp L c) hM w'))⟩
theorem hal_level (n : Nat) (tx tm : XT) (p1 p2 : Int32) (hJ : hAl (n + 1) tx tm) : ∃ k, wqX11_level k tx p1 p2 (fun r1 tx' => ∃ k', wqX12_level k' tm p1 p2 (fun r2 tm' => hAl n tx' tm')) := by
  obtain ⟨hJ, c, L, hL, hE, hM, hP, hH, hK⟩ := hJ
  obtain ⟨k, w⟩ := hat_level n tx tm p1 p2 hJ
  refine ⟨k, wmX11_level (Nat.le_refl k) (fun r1 tx' h => ?_) (zgX11_level (hpQ_kp (hpQ tx)) rfl (wgX11_level (hcE_kp L c) hE w))⟩
  obtain ⟨⟨⟨k', w'⟩, hE'⟩, hQ'⟩ := h
  exact ⟨k', wmX12_level (Nat.le_refl k') (fun r2 tm' h' => ⟨h'.1.1, c, L, hL, hE', h'.1.2, hAl_fr hQ' h'.2 ⟨hP, hH, hK⟩⟩) (qgX12_level (hqQ_kp (hqQ tm)) rfl (ygX12_level (hmE_kp L c) hM w'))⟩
theorem hal_levelBetti {K0 : Nat} (P : hq_point K0) (n : Nat) (tx tm : XT) (p1 p2 : Int32) (hJ : hAl (n + 1) tx tm) : ∃ k, wqX11_levelBetti k tx p1 p2 (fun r1 tx' => ∃ k', wqX12_levelBetti k' tm p1 p2 (fun r2 tm' => hAl n tx' tm')) := by
  obtain ⟨hJ, c, L, hL, hE, hM, hP, hH, hK⟩ := hJ
  obtain ⟨k, w⟩ := hat_levelBetti P n tx tm p1 p2 hJ
  refine ⟨k, wmX11_levelBetti (Nat.le_refl k) (fun r1 tx' h => ?_) (zgX11_levelBetti (hpQ_kp (hpQ tx)) rfl (wgX11_levelBetti (hcE_kp L c) hE w))⟩
  obtain ⟨⟨⟨k', w'⟩, hE'⟩, hQ'⟩ := h
  exact ⟨k', wmX12_levelBetti (Nat.le_refl k') (fun r2 tm' h' => ⟨h'.1.1, c, L, hL, hE', h'.1.2, hAl_fr hQ' h'.2 ⟨hP, hH, hK⟩⟩) (qgX12_levelBetti (hqQ_kp (hqQ tm)) rfl (ygX12_levelBetti (hmE_kp L c) hM w'))⟩
theorem hal_same (n : Nat) (tx tm : XT) (p1 : Int32) (hJ : hAl (n + 1) tx tm) : ∃ k, wqX11_same k tx p1 (fun r1 tx' => ∃ k', wqX12_same k' tm p1 (fun r2 tm' => hAl n tx' tm')) := by
  obtain ⟨hJ, c, L, hL, hE, hM, hP, hH, hK⟩ := hJ
  obtain ⟨k, w⟩ := hat_same n tx tm p1 hJ
  refine ⟨k, wmX11_same (Nat.le_refl k) (fun r1 tx' h => ?_) (zgX11_same (hpQ_kp (hpQ tx)) rfl (wgX11_same (hcE_kp L c) hE w))⟩
  obtain ⟨⟨⟨k', w'⟩, hE'⟩, hQ'⟩ := h
  exact ⟨k', wmX12_same (Nat.le_refl k') (fun r2 tm' h' => ⟨h'.1.1, c, L, hL, hE', h'.1.2, hAl_fr hQ' h'.2 ⟨hP, hH, hK⟩⟩) (qgX12_same (hqQ_kp (hqQ tm)) rfl (ygX12_same (hmE_kp L c) hM w'))⟩
theorem hal_count (n : Nat) (tx tm : XT) (p1 : Int32) (hJ : hAl (n + 1) tx tm) : ∃ k, wqX11_count k tx p1 (fun r1 tx' => ∃ k', wqX12_count k' tm p1 (fun r2 tm' => hAl n tx' tm')) := by
  obtain ⟨hJ, c, L, hL, hE, hM, hP, hH, hK⟩ := hJ
  obtain ⟨k, w⟩ := hat_count n tx tm p1 hJ
  refine ⟨k, wmX11_count (Nat.le_refl k) (fun r1 tx' h => ?_) (zgX11_count (hpQ_kp (hpQ tx)) rfl (wgX11_count (hcE_kp L c) hE w))⟩
  obtain ⟨⟨⟨k', w'⟩, hE'⟩, hQ'⟩ := h
  exact ⟨k', wmX12_count (Nat.le_refl k') (fun r2 tm' h' => ⟨h'.1.1, c, L, hL, hE', h'.1.2, hAl_fr hQ' h'.2 ⟨hP, hH, hK⟩⟩) (qgX12_count (hqQ_kp (hqQ tm)) rfl (ygX12_count (hmE_kp L c) hM w'))⟩
