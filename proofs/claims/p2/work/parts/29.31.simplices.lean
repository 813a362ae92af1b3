/-! ===== both sides: the same SIMPLICES; complex answers alike ===== -/
theorem hcE_kp (L : Nat → Int32) (c : Nat) : kp (fun t => hcE t L c) := by
  refine ⟨fun u i v hi h => ?_, fun u i v h => h, fun u i f h2 h3 h4 h => ?_, fun u i f h0 h1 h2 h => ?_⟩
  · obtain ⟨a, b⟩ := h
    exact ⟨(hc_uI u.1 v hi).trans a, b⟩
  · obtain ⟨a, b2, b3, b4, b⟩ := h
    have q2 : (sA u i f).2.2.1 2 = u.2.2.1 2 := hc_uI u.2.2.1 f h2
    have q3 : (sA u i f).2.2.1 3 = u.2.2.1 3 := hc_uI u.2.2.1 f h3
    have q4 : (sA u i f).2.2.1 4 = u.2.2.1 4 := hc_uI u.2.2.1 f h4
    exact ⟨a, fun k hk => by rw [q2]; exact b2 k hk, fun k hk => by rw [q3]; exact b3 k hk, fun k hk => by rw [q4]; exact b4 k hk, b⟩
  · obtain ⟨a, b2, b3, b4, b5, b6, b7⟩ := h
    have q0 : (sB u i f).2.2.2 0 = u.2.2.2 0 := hc_uI u.2.2.2 f h0
    have q1 : (sB u i f).2.2.2 1 = u.2.2.2 1 := hc_uI u.2.2.2 f h1
    have q2 : (sB u i f).2.2.2 2 = u.2.2.2 2 := hc_uI u.2.2.2 f h2
    exact ⟨a, b2, b3, b4, fun k f => by rw [q0]; exact b5 k f, fun f k => by rw [q1]; exact b6 f k, fun d k hd => by rw [q2]; exact b7 d k hd⟩
theorem hmE_kp (L : Nat → Int32) (c : Nat) : kpM (fun t => hmE t L c) := by
  refine ⟨fun u i v hi h => ?_, fun u i v h => h, fun u i f h2 h3 h => ?_, fun u i f h => h⟩
  · obtain ⟨a, b⟩ := h
    exact ⟨(hc_uI u.1 v hi).trans a, b⟩
  · obtain ⟨a, b, d⟩ := h
    have q2 : (sA u i f).2.2.1 2 = u.2.2.1 2 := hc_uI u.2.2.1 f h2
    have q3 : (sA u i f).2.2.1 3 = u.2.2.1 3 := hc_uI u.2.2.1 f h3
    exact ⟨a, fun k hk => by rw [q2]; exact b k hk, fun hc a ha => by rw [q3]; exact d hc a ha⟩
/-- a list of SIMPLICES: letters of 1 to 5, the smaller ones first, no two alike -/
def hnL (L : Nat → Int32) (c : Nat) : Prop := c ≤ 60 ∧ hnD L c ∧ (∀ k, k < c → ∃ x, 0 < x ∧ x < 256 ∧ L k = nI x ∧ 1 ≤ hq_Z x ∧ hq_Z x ≤ 5) ∧ ∀ j k x y, j < k → k < c → x < 256 → y < 256 → L j = nI x → L k = nI y → hq_Z x ≤ hq_Z y
theorem hnL_of {B : Nat → Int32} {L : Nat → Int32} {c : Nat} (h : hq_JN B 6 1 L c) (hc : c ≤ 60) (hD : hnD L c) : hnL L c := by
  refine ⟨hc, hD, fun k hk => ?_, h.2.2.1⟩
  obtain ⟨x, x0, x1, x2, x3, x4, x5⟩ := h.2.1 k hk
  exact ⟨x, x0, x1, x2, x4, by rcases x5 with q | q <;> omega⟩
def hSh (tx tm : XT) : Prop := ∃ c L, hnL L c ∧ hcE tx L c ∧ hmE tm L c
def hJs (n : Nat) (tx tm : XT) : Prop := hJt n tx tm ∧ hSh tx tm
theorem hnE_0 (L M : Nat → Int32) : hnE (L, 0) (M, 0) := ⟨rfl, fun k hk => absurd (show k < 0 from hk) (Nat.not_lt_zero k)⟩
theorem hrz_two {B C D : Nat → Int32} (h : hrz B D) (g : hrz C D) : hrz B C := fun a ha => (h a ha).trans (g a ha).symm
theorem hmE_eq {t : XT} {X Y : (Nat → Int32) × Nat} (e : hnE X Y) (h : hmE t Y.1 Y.2) : hmE t X.1 X.2 := by
  obtain ⟨a, b, d⟩ := h
  have q := e.1
  refine ⟨by rw [q]; exact a, fun k hk => ?_, fun hc a ha => ?_⟩
  · rw [e.2 k hk]; exact b k (by omega)
  · rw [d (by omega) a ha, ← q]
    exact (hnO_eq X.2 a (fun k hk => e.2 k hk)).symm
theorem hcE_sI {t : XT} {L : Nat → Int32} {c : Nat} (h : hcE t L c) {B : Nat → Int32} {n p : Nat} {v : Int32} : hcE (sI (hx_st t B n p) 1 v) L c := h
theorem hmE_st {t : XT} {L : Nat → Int32} {c p : Nat} (h : hmE t L c) {B : Nat → Int32} {v w : Int32} : hmE (sI (hq_st t B p v) 0 w) L c := h
theorem has_feed (n : Nat) (tx tm : XT) (p1 p2 p3 p4 p5 : Int32) (hJ : hJs (n + 1) tx tm) : ∃ k, wqX11_feed k tx p1 p2 p3 p4 p5 (fun r1 tx' => ∃ k', wqX12_feed k' tm p1 p2 p3 p4 p5 (fun r2 tm' => r1 = r2 ∧ hJs n tx' tm')) := by
  obtain ⟨hJ, c, L, hL, hE, hM⟩ := hJ
  obtain ⟨k, w⟩ := hat_feed n tx tm p1 p2 p3 p4 p5 hJ
  refine ⟨k, wmX11_feed (Nat.le_refl k) (fun r1 tx' h => ?_) (wgX11_feed (hcE_kp L c) hE w)⟩
  obtain ⟨⟨k', w'⟩, hE'⟩ := h
  exact ⟨k', wmX12_feed (Nat.le_refl k') (fun r2 tm' h' => ⟨h'.1.1, h'.1.2, c, L, hL, hE', h'.2⟩) (ygX12_feed (hmE_kp L c) hM w')⟩
theorem has_end (n : Nat) (tx tm : XT) (p1 : Int32) (hJ : hJs (n + 1) tx tm) : ∃ k, wqX11_end k tx p1 (fun r1 tx' => ∃ k', wqX12_end k' tm p1 (fun r2 tm' => r1 = r2 ∧ hJs n tx' tm')) := by
  obtain ⟨hJ, c, L, hL, hE, hM⟩ := hJ
  obtain ⟨k, w⟩ := hat_end n tx tm p1 hJ
  refine ⟨k, wmX11_end (Nat.le_refl k) (fun r1 tx' h => ?_) (wgX11_end (hcE_kp L c) hE w)⟩
  obtain ⟨⟨k', w'⟩, hE'⟩ := h
  exact ⟨k', wmX12_end (Nat.le_refl k') (fun r2 tm' h' => ⟨h'.1.1, h'.1.2, c, L, hL, hE', h'.2⟩) (ygX12_end (hmE_kp L c) hM w')⟩
theorem has_complex (n : Nat) (tx tm : XT) (hJ : hJs (n + 1) tx tm) : ∃ k, wqX11_complex k tx  (fun r1 tx' => ∃ k', wqX12_complex k' tm  (fun r2 tm' => r1 = r2 ∧ hJs n tx' tm')) := by
  obtain ⟨hJ, c, L, hL, hE, hM⟩ := hJ
  obtain ⟨k, w⟩ := hat_complex n tx tm  hJ
  obtain ⟨z, x, hR, gx, hC, gy, gT⟩ := hJ
  obtain ⟨m, hI, _⟩ := id hC
  obtain ⟨hz, e0, _⟩ := id hR
  obtain ⟨o, ho⟩ : ∃ o, o = hrd (fun i => tm.2.2.1 0 i &&& 255) z 25 0 0 [] := ⟨_, rfl⟩
  have ho2 : hrd (tx.2.2.1 0) z 25 0 0 [] = o := by rw [ho]; exact hrd_ext hz gT 25 0 0 [] (by omega)
  have ex : wqX11_complex (k + 6000) tx (fun r t' => (¬ o.1 = 0 → r = -2 - o.1 ∧ hcE t' L c) ∧ (o.1 = 0 → ∃ B' X, hrz B' (hrT o.2) ∧ hnS B' 5 1 (tx.2.2.1 2, 0) = X ∧ hcE t' X.1 X.2 ∧ hnL X.1 X.2 ∧ r = nI X.2)) := hce_complex hI.1 hz ho2 (by omega) (fun no B' p' => ⟨fun _ => ⟨rfl, hcE_sI hE⟩, fun y => absurd y no⟩) (fun yes B' X t' a1 a2 a3 a4 a5 a6 a7 a8 => ⟨fun y => absurd yes y, fun _ => ⟨B', X, a1, a3, a4, hnL_of a6 a8 a5, rfl⟩⟩)
  refine ⟨k + 6000, wiX11_complex (wmX11_complex (Nat.le_add_right k 6000) (fun _ _ h => h) w) ex (fun r1 tx' h g => ?_)⟩
  obtain ⟨k', w'⟩ := h
  have em : wqX12_complex (k' + 30000) tm (fun r t' => (¬ o.1 = 0 → r = -2 - o.1 ∧ hmE t' L c) ∧ (o.1 = 0 → ∃ B' X, hrz B' (hrT o.2) ∧ hnS B' 5 1 (tm.2.2.1 2, 0) = X ∧ hmE t' X.1 X.2 ∧ r = nI X.2)) := hme_complex e0 hz ho.symm (by omega) (fun no B' p' => ⟨fun _ => ⟨rfl, hmE_st hM⟩, fun y => absurd y no⟩) (fun yes B' X t' a1 a2 a3 a4 a5 a6 => ⟨fun y => absurd yes y, fun _ => ⟨B', X, a1, a2, a3, rfl⟩⟩)
  refine ⟨k' + 30000, wiX12_complex (wmX12_complex (Nat.le_add_right k' 30000) (fun _ _ h => h) w') em (fun r2 tm' h' g' => ?_)⟩
  by_cases yes : o.1 = 0
  · obtain ⟨B1, X, b1, b2, b3, b4, b5⟩ := g.2 yes
    obtain ⟨B2, Y, d1, d2, d3, d5⟩ := g'.2 yes
    have e : hnE X Y := by rw [← b2, ← d2]; exact hnS_eq (hrz_two b1 d1) 5 1 _ _ (hnE_0 _ _)
    exact ⟨by rw [b5, d5, e.1], h', X.2, X.1, b4, b3, hmE_eq e d3⟩
  · exact ⟨(g.1 yes).1.trans (g'.1 yes).1.symm, h', c, L, hL, (g.1 yes).2, (g'.1 yes).2⟩
theorem has_simplex (n : Nat) (tx tm : XT) (p1 p2 : Int32) (hJ : hJs (n + 1) tx tm) : ∃ k, wqX11_simplex k tx p1 p2 (fun r1 tx' => ∃ k', wqX12_simplex k' tm p1 p2 (fun r2 tm' => hJs n tx' tm')) := by
  obtain ⟨hJ, c, L, hL, hE, hM⟩ := hJ
  obtain ⟨k, w⟩ := hat_simplex n tx tm p1 p2 hJ
  refine ⟨k, wmX11_simplex (Nat.le_refl k) (fun r1 tx' h => ?_) (wgX11_simplex (hcE_kp L c) hE w)⟩
  obtain ⟨⟨k', w'⟩, hE'⟩ := h
  exact ⟨k', wmX12_simplex (Nat.le_refl k') (fun r2 tm' h' => ⟨h'.1, c, L, hL, hE', h'.2⟩) (ygX12_simplex (hmE_kp L c) hM w')⟩
theorem has_number (n : Nat) (tx tm : XT) (p1 : Int32) (hJ : hJs (n + 1) tx tm) : ∃ k, wqX11_number k tx p1 (fun r1 tx' => ∃ k', wqX12_number k' tm p1 (fun r2 tm' => hJs n tx' tm')) := by
  obtain ⟨hJ, c, L, hL, hE, hM⟩ := hJ
  obtain ⟨k, w⟩ := hat_number n tx tm p1 hJ
  refine ⟨k, wmX11_number (Nat.le_refl k) (fun r1 tx' h => ?_) (wgX11_number (hcE_kp L c) hE w)⟩
  obtain ⟨⟨k', w'⟩, hE'⟩ := h
  exact ⟨k', wmX12_number (Nat.le_refl k') (fun r2 tm' h' => ⟨h'.1, c, L, hL, hE', h'.2⟩) (ygX12_number (hmE_kp L c) hM w')⟩
theorem has_sign (n : Nat) (tx tm : XT) (p1 p2 : Int32) (hJ : hJs (n + 1) tx tm) : ∃ k, wqX11_sign k tx p1 p2 (fun r1 tx' => ∃ k', wqX12_sign k' tm p1 p2 (fun r2 tm' => hJs n tx' tm')) := by
  obtain ⟨hJ, c, L, hL, hE, hM⟩ := hJ
  obtain ⟨k, w⟩ := hat_sign n tx tm p1 p2 hJ
  refine ⟨k, wmX11_sign (Nat.le_refl k) (fun r1 tx' h => ?_) (wgX11_sign (hcE_kp L c) hE w)⟩
  obtain ⟨⟨k', w'⟩, hE'⟩ := h
  exact ⟨k', wmX12_sign (Nat.le_refl k') (fun r2 tm' h' => ⟨h'.1, c, L, hL, hE', h'.2⟩) (ygX12_sign (hmE_kp L c) hM w')⟩
theorem has_pair (n : Nat) (tx tm : XT) (p1 p2 : Int32) (hJ : hJs (n + 1) tx tm) : ∃ k, wqX11_pair k tx p1 p2 (fun r1 tx' => ∃ k', wqX12_pair k' tm p1 p2 (fun r2 tm' => hJs n tx' tm')) := by
  obtain ⟨hJ, c, L, hL, hE, hM⟩ := hJ
  obtain ⟨k, w⟩ := hat_pair n tx tm p1 p2 hJ
  refine ⟨k, wmX11_pair (Nat.le_refl k) (fun r1 tx' h => ?_) (wgX11_pair (hcE_kp L c) hE w)⟩
  obtain ⟨⟨k', w'⟩, hE'⟩ := h
  exact ⟨k', wmX12_pair (Nat.le_refl k') (fun r2 tm' h' => ⟨h'.1, c, L, hL, hE', h'.2⟩) (ygX12_pair (hmE_kp L c) hM w')⟩
theorem has_part (n : Nat) (tx tm : XT) (p1 : Int32) (hJ : hJs (n + 1) tx tm) : ∃ k, wqX11_part k tx p1 (fun r1 tx' => ∃ k', wqX12_part k' tm p1 (fun r2 tm' => hJs n tx' tm')) := by
  obtain ⟨hJ, c, L, hL, hE, hM⟩ := hJ
  obtain ⟨k, w⟩ := hat_part n tx tm p1 hJ
  refine ⟨k, wmX11_part (Nat.le_refl k) (fun r1 tx' h => ?_) (wgX11_part (hcE_kp L c) hE w)⟩
  obtain ⟨⟨k', w'⟩, hE'⟩ := h
  exact ⟨k', wmX12_part (Nat.le_refl k') (fun r2 tm' h' => ⟨h'.1, c, L, hL, hE', h'.2⟩) (ygX12_part (hmE_kp L c) hM w')⟩
theorem has_auto (n : Nat) (tx tm : XT) (p1 : Int32) (hJ : hJs (n + 1) tx tm) : ∃ k, wqX11_auto k tx p1 (fun r1 tx' => ∃ k', wqX12_auto k' tm p1 (fun r2 tm' => hJs n tx' tm')) := by
  obtain ⟨hJ, c, L, hL, hE, hM⟩ := hJ
  obtain ⟨k, w⟩ := hat_auto n tx tm p1 hJ
  refine ⟨k, wmX11_auto (Nat.le_refl k) (fun r1 tx' h => ?_) (wgX11_auto (hcE_kp L c) hE w)⟩
  obtain ⟨⟨k', w'⟩, hE'⟩ := h
  exact ⟨k', wmX12_auto (Nat.le_refl k') (fun r2 tm' h' => ⟨h'.1, c, L, hL, hE', h'.2⟩) (ygX12_auto (hmE_kp L c) hM w')⟩
theorem has_cancel (n : Nat) (tx tm : XT) (p1 p2 : Int32) (hJ : hJs (n + 1) tx tm) : ∃ k, wqX11_cancel k tx p1 p2 (fun r1 tx' => ∃ k', wqX12_cancel k' tm p1 p2 (fun r2 tm' => hJs n tx' tm')) := by
  obtain ⟨hJ, c, L, hL, hE, hM⟩ := hJ
  obtain ⟨k, w⟩ := hat_cancel n tx tm p1 p2 hJ
  refine ⟨k, wmX11_cancel (Nat.le_refl k) (fun r1 tx' h => ?_) (wgX11_cancel (hcE_kp L c) hE w)⟩
  obtain ⟨⟨k', w'⟩, hE'⟩ := h
  exact ⟨k', wmX12_cancel (Nat.le_refl k') (fun r2 tm' h' => ⟨h'.1, c, L, hL, hE', h'.2⟩) (ygX12_cancel (hmE_kp L c) hM w')⟩
theorem has_collapse (n : Nat) (tx tm : XT) (p1 : Int32) (hJ : hJs (n + 1) tx tm) : ∃ k, wqX11_collapse k tx p1 (fun r1 tx' => ∃ k', wqX12_collapse k' tm p1 (fun r2 tm' => hJs n tx' tm')) := by
  obtain ⟨hJ, c, L, hL, hE, hM⟩ := hJ
  obtain ⟨k, w⟩ := hat_collapse n tx tm p1 hJ
  refine ⟨k, wmX11_collapse (Nat.le_refl k) (fun r1 tx' h => ?_) (wgX11_collapse (hcE_kp L c) hE w)⟩
  obtain ⟨⟨k', w'⟩, hE'⟩ := h
  exact ⟨k', wmX12_collapse (Nat.le_refl k') (fun r2 tm' h' => ⟨h'.1, c, L, hL, hE', h'.2⟩) (ygX12_collapse (hmE_kp L c) hM w')⟩
theorem has_undo (n : Nat) (tx tm : XT) (hJ : hJs (n + 1) tx tm) : ∃ k, wqX11_undo k tx  (fun r1 tx' => ∃ k', wqX12_undo k' tm  (fun r2 tm' => hJs n tx' tm')) := by
  obtain ⟨hJ, c, L, hL, hE, hM⟩ := hJ
  obtain ⟨k, w⟩ := hat_undo n tx tm  hJ
  refine ⟨k, wmX11_undo (Nat.le_refl k) (fun r1 tx' h => ?_) (wgX11_undo (hcE_kp L c) hE w)⟩
  obtain ⟨⟨k', w'⟩, hE'⟩ := h
  exact ⟨k', wmX12_undo (Nat.le_refl k') (fun r2 tm' h' => ⟨h'.1, c, L, hL, hE', h'.2⟩) (ygX12_undo (hmE_kp L c) hM w')⟩
theorem has_critical (n : Nat) (tx tm : XT) (p1 p2 : Int32) (hJ : hJs (n + 1) tx tm) : ∃ k, wqX11_critical k tx p1 p2 (fun r1 tx' => ∃ k', wqX12_critical k' tm p1 p2 (fun r2 tm' => hJs n tx' tm')) := by
  obtain ⟨hJ, c, L, hL, hE, hM⟩ := hJ
  obtain ⟨k, w⟩ := hat_critical n tx tm p1 p2 hJ
  refine ⟨k, wmX11_critical (Nat.le_refl k) (fun r1 tx' h => ?_) (wgX11_critical (hcE_kp L c) hE w)⟩
  obtain ⟨⟨k', w'⟩, hE'⟩ := h
  exact ⟨k', wmX12_critical (Nat.le_refl k') (fun r2 tm' h' => ⟨h'.1, c, L, hL, hE', h'.2⟩) (ygX12_critical (hmE_kp L c) hM w')⟩
theorem has_paths (n : Nat) (tx tm : XT) (p1 p2 : Int32) (hJ : hJs (n + 1) tx tm) : ∃ k, wqX11_paths k tx p1 p2 (fun r1 tx' => ∃ k', wqX12_paths k' tm p1 p2 (fun r2 tm' => hJs n tx' tm')) := by
  obtain ⟨hJ, c, L, hL, hE, hM⟩ := hJ
  obtain ⟨k, w⟩ := hat_paths n tx tm p1 p2 hJ
  refine ⟨k, wmX11_paths (Nat.le_refl k) (fun r1 tx' h => ?_) (wgX11_paths (hcE_kp L c) hE w)⟩
  obtain ⟨⟨k', w'⟩, hE'⟩ := h
  exact ⟨k', wmX12_paths (Nat.le_refl k') (fun r2 tm' h' => ⟨h'.1, c, L, hL, hE', h'.2⟩) (ygX12_paths (hmE_kp L c) hM w')⟩
theorem has_path (n : Nat) (tx tm : XT) (p1 p2 p3 p4 : Int32) (hJ : hJs (n + 1) tx tm) : ∃ k, wqX11_path k tx p1 p2 p3 p4 (fun r1 tx' => ∃ k', wqX12_path k' tm p1 p2 p3 p4 (fun r2 tm' => hJs n tx' tm')) := by
  obtain ⟨hJ, c, L, hL, hE, hM⟩ := hJ
  obtain ⟨k, w⟩ := hat_path n tx tm p1 p2 p3 p4 hJ
  refine ⟨k, wmX11_path (Nat.le_refl k) (fun r1 tx' h => ?_) (wgX11_path (hcE_kp L c) hE w)⟩
  obtain ⟨⟨k', w'⟩, hE'⟩ := h
  exact ⟨k', wmX12_path (Nat.le_refl k') (fun r2 tm' h' => ⟨h'.1, c, L, hL, hE', h'.2⟩) (ygX12_path (hmE_kp L c) hM w')⟩
theorem has_incidence (n : Nat) (tx tm : XT) (p1 p2 : Int32) (hJ : hJs (n + 1) tx tm) : ∃ k, wqX11_incidence k tx p1 p2 (fun r1 tx' => ∃ k', wqX12_incidence k' tm p1 p2 (fun r2 tm' => hJs n tx' tm')) := by
  obtain ⟨hJ, c, L, hL, hE, hM⟩ := hJ
  obtain ⟨k, w⟩ := hat_incidence n tx tm p1 p2 hJ
  refine ⟨k, wmX11_incidence (Nat.le_refl k) (fun r1 tx' h => ?_) (wgX11_incidence (hcE_kp L c) hE w)⟩
  obtain ⟨⟨k', w'⟩, hE'⟩ := h
  exact ⟨k', wmX12_incidence (Nat.le_refl k') (fun r2 tm' h' => ⟨h'.1, c, L, hL, hE', h'.2⟩) (ygX12_incidence (hmE_kp L c) hM w')⟩
theorem has_chain (n : Nat) (tx tm : XT) (p1 p2 : Int32) (hJ : hJs (n + 1) tx tm) : ∃ k, wqX11_chain k tx p1 p2 (fun r1 tx' => ∃ k', wqX12_chain k' tm p1 p2 (fun r2 tm' => hJs n tx' tm')) := by
  obtain ⟨hJ, c, L, hL, hE, hM⟩ := hJ
  obtain ⟨k, w⟩ := hat_chain n tx tm p1 p2 hJ
  refine ⟨k, wmX11_chain (Nat.le_refl k) (fun r1 tx' h => ?_) (wgX11_chain (hcE_kp L c) hE w)⟩
  obtain ⟨⟨k', w'⟩, hE'⟩ := h
  exact ⟨k', wmX12_chain (Nat.le_refl k') (fun r2 tm' h' => ⟨h'.1, c, L, hL, hE', h'.2⟩) (ygX12_chain (hmE_kp L c) hM w')⟩
theorem has_root (n : Nat) (tx tm : XT) (p1 p2 : Int32) (hJ : hJs (n + 1) tx tm) : ∃ k, wqX11_root k tx p1 p2 (fun r1 tx' => ∃ k', wqX12_root k' tm p1 p2 (fun r2 tm' => hJs n tx' tm')) := by
  obtain ⟨hJ, c, L, hL, hE, hM⟩ := hJ
  obtain ⟨k, w⟩ := hat_root n tx tm p1 p2 hJ
  refine ⟨k, wmX11_root (Nat.le_refl k) (fun r1 tx' h => ?_) (wgX11_root (hcE_kp L c) hE w)⟩
  obtain ⟨⟨k', w'⟩, hE'⟩ := h
  exact ⟨k', wmX12_root (Nat.le_refl k') (fun r2 tm' h' => ⟨h'.1, c, L, hL, hE', h'.2⟩) (ygX12_root (hmE_kp L c) hM w')⟩
theorem has_through (n : Nat) (tx tm : XT) (p1 p2 p3 : Int32) (hJ : hJs (n + 1) tx tm) : ∃ k, wqX11_through k tx p1 p2 p3 (fun r1 tx' => ∃ k', wqX12_through k' tm p1 p2 p3 (fun r2 tm' => hJs n tx' tm')) := by
  obtain ⟨hJ, c, L, hL, hE, hM⟩ := hJ
  obtain ⟨k, w⟩ := hat_through n tx tm p1 p2 p3 hJ
  refine ⟨k, wmX11_through (Nat.le_refl k) (fun r1 tx' h => ?_) (wgX11_through (hcE_kp L c) hE w)⟩
  obtain ⟨⟨k', w'⟩, hE'⟩ := h
  exact ⟨k', wmX12_through (Nat.le_refl k') (fun r2 tm' h' => ⟨h'.1, c, L, hL, hE', h'.2⟩) (ygX12_through (hmE_kp L c) hM w')⟩
theorem has_squares (n : Nat) (tx tm : XT) (hJ : hJs (n + 1) tx tm) : ∃ k, wqX11_squares k tx  (fun r1 tx' => ∃ k', wqX12_squares k' tm  (fun r2 tm' => hJs n tx' tm')) := by
  obtain ⟨hJ, c, L, hL, hE, hM⟩ := hJ
  obtain ⟨k, w⟩ := hat_squares n tx tm  hJ
  refine ⟨k, wmX11_squares (Nat.le_refl k) (fun r1 tx' h => ?_) (wgX11_squares (hcE_kp L c) hE w)⟩
  obtain ⟨⟨k', w'⟩, hE'⟩ := h
  exact ⟨k', wmX12_squares (Nat.le_refl k') (fun r2 tm' h' => ⟨h'.1, c, L, hL, hE', h'.2⟩) (ygX12_squares (hmE_kp L c) hM w')⟩
theorem has_betti {K0 : Nat} (P : hq_point K0) (n : Nat) (tx tm : XT) (p1 p2 : Int32) (hJ : hJs (n + 1) tx tm) : ∃ k, wqX11_betti k tx p1 p2 (fun r1 tx' => ∃ k', wqX12_betti k' tm p1 p2 (fun r2 tm' => hJs n tx' tm')) := by
  obtain ⟨hJ, c, L, hL, hE, hM⟩ := hJ
  obtain ⟨k, w⟩ := hat_betti P n tx tm p1 p2 hJ
  refine ⟨k, wmX11_betti (Nat.le_refl k) (fun r1 tx' h => ?_) (wgX11_betti (hcE_kp L c) hE w)⟩
  obtain ⟨⟨k', w'⟩, hE'⟩ := h
  exact ⟨k', wmX12_betti (Nat.le_refl k') (fun r2 tm' h' => ⟨h'.1, c, L, hL, hE', h'.2⟩) (ygX12_betti (hmE_kp L c) hM w')⟩
theorem has_torsion {K0 : Nat} (P : hq_point K0) (n : Nat) (tx tm : XT) (p1 p2 p3 : Int32) (hJ : hJs (n + 1) tx tm) : ∃ k, wqX11_torsion k tx p1 p2 p3 (fun r1 tx' => ∃ k', wqX12_torsion k' tm p1 p2 p3 (fun r2 tm' => hJs n tx' tm')) := by
  obtain ⟨hJ, c, L, hL, hE, hM⟩ := hJ
  obtain ⟨k, w⟩ := hat_torsion P n tx tm p1 p2 p3 hJ
  refine ⟨k, wmX11_torsion (Nat.le_refl k) (fun r1 tx' h => ?_) (wgX11_torsion (hcE_kp L c) hE w)⟩
  obtain ⟨⟨k', w'⟩, hE'⟩ := h
  exact ⟨k', wmX12_torsion (Nat.le_refl k') (fun r2 tm' h' => ⟨h'.1, c, L, hL, hE', h'.2⟩) (ygX12_torsion (hmE_kp L c) hM w')⟩
theorem has_slack {K0 : Nat} (P : hq_point K0) (n : Nat) (tx tm : XT) (p1 : Int32) (hJ : hJs (n + 1) tx tm) : ∃ k, wqX11_slack k tx p1 (fun r1 tx' => ∃ k', wqX12_slack k' tm p1 (fun r2 tm' => hJs n tx' tm')) := by
  obtain ⟨hJ, c, L, hL, hE, hM⟩ := hJ
  obtain ⟨k, w⟩ := hat_slack P n tx tm p1 hJ
  refine ⟨k, wmX11_slack (Nat.le_refl k) (fun r1 tx' h => ?_) (wgX11_slack (hcE_kp L c) hE w)⟩
  obtain ⟨⟨k', w'⟩, hE'⟩ := h
  exact ⟨k', wmX12_slack (Nat.le_refl k') (fun r2 tm' h' => ⟨h'.1, c, L, hL, hE', h'.2⟩) (ygX12_slack (hmE_kp L c) hM w')⟩
theorem has_free (n : Nat) (tx tm : XT) (p1 : Int32) (hJ : hJs (n + 1) tx tm) : ∃ k, wqX11_free k tx p1 (fun r1 tx' => ∃ k', wqX12_free k' tm p1 (fun r2 tm' => hJs n tx' tm')) := by
  obtain ⟨hJ, c, L, hL, hE, hM⟩ := hJ
  obtain ⟨k, w⟩ := hat_free n tx tm p1 hJ
  refine ⟨k, wmX11_free (Nat.le_refl k) (fun r1 tx' h => ?_) (wgX11_free (hcE_kp L c) hE w)⟩
  obtain ⟨⟨k', w'⟩, hE'⟩ := h
  exact ⟨k', wmX12_free (Nat.le_refl k') (fun r2 tm' h' => ⟨h'.1, c, L, hL, hE', h'.2⟩) (ygX12_free (hmE_kp L c) hM w')⟩
theorem has_facet (n : Nat) (tx tm : XT) (p1 : Int32) (hJ : hJs (n + 1) tx tm) : ∃ k, wqX11_facet k tx p1 (fun r1 tx' => ∃ k', wqX12_facet k' tm p1 (fun r2 tm' => hJs n tx' tm')) := by
  obtain ⟨hJ, c, L, hL, hE, hM⟩ := hJ
  obtain ⟨k, w⟩ := hat_facet n tx tm p1 hJ
  refine ⟨k, wmX11_facet (Nat.le_refl k) (fun r1 tx' h => ?_) (wgX11_facet (hcE_kp L c) hE w)⟩
  obtain ⟨⟨k', w'⟩, hE'⟩ := h
  exact ⟨k', wmX12_facet (Nat.le_refl k') (fun r2 tm' h' => ⟨h'.1, c, L, hL, hE', h'.2⟩) (ygX12_facet (hmE_kp L c) hM w')⟩
theorem has_link (n : Nat) (tx tm : XT) (p1 p2 : Int32) (hJ : hJs (n + 1) tx tm) : ∃ k, wqX11_link k tx p1 p2 (fun r1 tx' => ∃ k', wqX12_link k' tm p1 p2 (fun r2 tm' => hJs n tx' tm')) := by
  obtain ⟨hJ, c, L, hL, hE, hM⟩ := hJ
  obtain ⟨k, w⟩ := hat_link n tx tm p1 p2 hJ
  refine ⟨k, wmX11_link (Nat.le_refl k) (fun r1 tx' h => ?_) (wgX11_link (hcE_kp L c) hE w)⟩
  obtain ⟨⟨k', w'⟩, hE'⟩ := h
  exact ⟨k', wmX12_link (Nat.le_refl k') (fun r2 tm' h' => ⟨h'.1, c, L, hL, hE', h'.2⟩) (ygX12_link (hmE_kp L c) hM w')⟩
theorem has_room (n : Nat) (tx tm : XT) (p1 : Int32) (hJ : hJs (n + 1) tx tm) : ∃ k, wqX11_room k tx p1 (fun r1 tx' => ∃ k', wqX12_room k' tm p1 (fun r2 tm' => hJs n tx' tm')) := by
  obtain ⟨hJ, c, L, hL, hE, hM⟩ := hJ
  obtain ⟨k, w⟩ := hat_room n tx tm p1 hJ
  refine ⟨k, wmX11_room (Nat.le_refl k) (fun r1 tx' h => ?_) (wgX11_room (hcE_kp L c) hE w)⟩
  obtain ⟨⟨k', w'⟩, hE'⟩ := h
  exact ⟨k', wmX12_room (Nat.le_refl k') (fun r2 tm' h' => ⟨h'.1, c, L, hL, hE', h'.2⟩) (ygX12_room (hmE_kp L c) hM w')⟩
theorem has_draws (n : Nat) (tx tm : XT) (p1 : Int32) (hJ : hJs (n + 1) tx tm) : ∃ k, wqX11_draws k tx p1 (fun r1 tx' => ∃ k', wqX12_draws k' tm p1 (fun r2 tm' => r1 = r2 ∧ hJs n tx' tm')) := by
  obtain ⟨hJ, c, L, hL, hE, hM⟩ := hJ
  obtain ⟨k, w⟩ := hat_draws n tx tm p1 hJ
  refine ⟨k, wmX11_draws (Nat.le_refl k) (fun r1 tx' h => ?_) (wgX11_draws (hcE_kp L c) hE w)⟩
  obtain ⟨⟨k', w'⟩, hE'⟩ := h
  exact ⟨k', wmX12_draws (Nat.le_refl k') (fun r2 tm' h' => ⟨h'.1.1, h'.1.2, c, L, hL, hE', h'.2⟩) (ygX12_draws (hmE_kp L c) hM w')⟩
theorem has_drawn (n : Nat) (tx tm : XT) (p1 p2 : Int32) (hJ : hJs (n + 1) tx tm) : ∃ k, wqX11_drawn k tx p1 p2 (fun r1 tx' => ∃ k', wqX12_drawn k' tm p1 p2 (fun r2 tm' => hJs n tx' tm')) := by
  obtain ⟨hJ, c, L, hL, hE, hM⟩ := hJ
  obtain ⟨k, w⟩ := hat_drawn n tx tm p1 p2 hJ
  refine ⟨k, wmX11_drawn (Nat.le_refl k) (fun r1 tx' h => ?_) (wgX11_drawn (hcE_kp L c) hE w)⟩
  obtain ⟨⟨k', w'⟩, hE'⟩ := h
  exact ⟨k', wmX12_drawn (Nat.le_refl k') (fun r2 tm' h' => ⟨h'.1, c, L, hL, hE', h'.2⟩) (ygX12_drawn (hmE_kp L c) hM w')⟩
theorem has_level (n : Nat) (tx tm : XT) (p1 p2 : Int32) (hJ : hJs (n + 1) tx tm) : ∃ k, wqX11_level k tx p1 p2 (fun r1 tx' => ∃ k', wqX12_level k' tm p1 p2 (fun r2 tm' => hJs n tx' tm')) := by
  obtain ⟨hJ, c, L, hL, hE, hM⟩ := hJ
  obtain ⟨k, w⟩ := hat_level n tx tm p1 p2 hJ
  refine ⟨k, wmX11_level (Nat.le_refl k) (fun r1 tx' h => ?_) (wgX11_level (hcE_kp L c) hE w)⟩
  obtain ⟨⟨k', w'⟩, hE'⟩ := h
  exact ⟨k', wmX12_level (Nat.le_refl k') (fun r2 tm' h' => ⟨h'.1, c, L, hL, hE', h'.2⟩) (ygX12_level (hmE_kp L c) hM w')⟩
theorem has_levelBetti {K0 : Nat} (P : hq_point K0) (n : Nat) (tx tm : XT) (p1 p2 : Int32) (hJ : hJs (n + 1) tx tm) : ∃ k, wqX11_levelBetti k tx p1 p2 (fun r1 tx' => ∃ k', wqX12_levelBetti k' tm p1 p2 (fun r2 tm' => hJs n tx' tm')) := by
  obtain ⟨hJ, c, L, hL, hE, hM⟩ := hJ
  obtain ⟨k, w⟩ := hat_levelBetti P n tx tm p1 p2 hJ
  refine ⟨k, wmX11_levelBetti (Nat.le_refl k) (fun r1 tx' h => ?_) (wgX11_levelBetti (hcE_kp L c) hE w)⟩
  obtain ⟨⟨k', w'⟩, hE'⟩ := h
  exact ⟨k', wmX12_levelBetti (Nat.le_refl k') (fun r2 tm' h' => ⟨h'.1, c, L, hL, hE', h'.2⟩) (ygX12_levelBetti (hmE_kp L c) hM w')⟩
theorem has_keep (n : Nat) (tx tm : XT) (p1 : Int32) (hJ : hJs (n + 1) tx tm) : ∃ k, wqX11_keep k tx p1 (fun r1 tx' => ∃ k', wqX12_keep k' tm p1 (fun r2 tm' => hJs n tx' tm')) := by
  obtain ⟨hJ, c, L, hL, hE, hM⟩ := hJ
  obtain ⟨k, w⟩ := hat_keep n tx tm p1 hJ
  refine ⟨k, wmX11_keep (Nat.le_refl k) (fun r1 tx' h => ?_) (wgX11_keep (hcE_kp L c) hE w)⟩
  obtain ⟨⟨k', w'⟩, hE'⟩ := h
  exact ⟨k', wmX12_keep (Nat.le_refl k') (fun r2 tm' h' => ⟨h'.1, c, L, hL, hE', h'.2⟩) (ygX12_keep (hmE_kp L c) hM w')⟩
theorem has_same (n : Nat) (tx tm : XT) (p1 : Int32) (hJ : hJs (n + 1) tx tm) : ∃ k, wqX11_same k tx p1 (fun r1 tx' => ∃ k', wqX12_same k' tm p1 (fun r2 tm' => hJs n tx' tm')) := by
  obtain ⟨hJ, c, L, hL, hE, hM⟩ := hJ
  obtain ⟨k, w⟩ := hat_same n tx tm p1 hJ
  refine ⟨k, wmX11_same (Nat.le_refl k) (fun r1 tx' h => ?_) (wgX11_same (hcE_kp L c) hE w)⟩
  obtain ⟨⟨k', w'⟩, hE'⟩ := h
  exact ⟨k', wmX12_same (Nat.le_refl k') (fun r2 tm' h' => ⟨h'.1, c, L, hL, hE', h'.2⟩) (ygX12_same (hmE_kp L c) hM w')⟩
theorem has_count (n : Nat) (tx tm : XT) (p1 : Int32) (hJ : hJs (n + 1) tx tm) : ∃ k, wqX11_count k tx p1 (fun r1 tx' => ∃ k', wqX12_count k' tm p1 (fun r2 tm' => hJs n tx' tm')) := by
  obtain ⟨hJ, c, L, hL, hE, hM⟩ := hJ
  obtain ⟨k, w⟩ := hat_count n tx tm p1 hJ
  refine ⟨k, wmX11_count (Nat.le_refl k) (fun r1 tx' h => ?_) (wgX11_count (hcE_kp L c) hE w)⟩
  obtain ⟨⟨k', w'⟩, hE'⟩ := h
  exact ⟨k', wmX12_count (Nat.le_refl k') (fun r2 tm' h' => ⟨h'.1, c, L, hL, hE', h'.2⟩) (ygX12_count (hmE_kp L c) hM w')⟩
theorem hJs_dn (n : Nat) (tx tm : XT) (h : hJs (n + 1) tx tm) : hJs n tx tm := ⟨hJt_dn n tx tm h.1, h.2⟩
theorem hJs_0 : hJs 513 tx0 tm0 := by
  refine ⟨hJt_0, 0, fun _ => 0, ⟨by omega, fun j k _ hk => absurd hk (Nat.not_lt_zero k), fun k hk => absurd hk (Nat.not_lt_zero k), fun j k x y _ hk => absurd hk (Nat.not_lt_zero k)⟩, ⟨rfl, fun k hk => absurd hk (Nat.not_lt_zero k), fun k hk => absurd hk (Nat.not_lt_zero k), fun a _ => rfl, fun k f => ?_, fun f k => ?_, fun d k _ => ?_⟩, ⟨rfl, fun k hk => absurd hk (Nat.not_lt_zero k), fun h => absurd rfl h⟩⟩
  · exact ⟨fun w => absurd ((hb_0 f).symm.trans w) (by decide), fun w => absurd w.1 (Nat.not_lt_zero k)⟩
  · exact ⟨fun w => absurd ((hb_0 k).symm.trans w) (by decide), fun w => absurd w.1 (Nat.not_lt_zero k)⟩
  · exact ⟨fun w => absurd ((hb_0 k).symm.trans w) (by decide), fun w => absurd w.1 (Nat.not_lt_zero k)⟩
