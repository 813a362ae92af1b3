/-! ===== reference, pure: every call keeps hr: the TAPE as long as z, and its invariant (four calls over hq_point) ===== -/
def hr (t : XT) (z : Nat) : Prop := z ≤ 160 ∧ t.1 0 = nI z ∧ 0 ≤ t.1 8 ∧ ∃ m n, hq_inv t m n ∧ hq_geo t m
theorem hr_key {t t' : XT} {z m n : Nat} (h : hr t z) (hg : hq_geo t m) (hk : hq_key t' = hq_key t) (hI : hq_inv t' m n) : hr t' z := by
  have a : t'.1 0 = t.1 0 := congrArg (fun q => q.1) hk
  have b : t'.1 8 = t.1 8 := congrArg (fun q => q.2.1) hk
  exact ⟨h.1, a.trans h.2.1, by rw [b]; exact h.2.2.1, m, n, hI, hq_geo_key hk hg⟩
theorem hr_simplex {t : XT} {z : Nat} {p1 p2 : Int32} (h : hr t z) : ∃ k, wqX12_simplex k t p1 p2 (fun _ t' => hr t' z) := by
  obtain ⟨hz, e0, hx, m, n, hI, hg⟩ := id h
  obtain ⟨L, hL⟩ : ∃ L, L = 10000000100000 := ⟨_, rfl⟩
  exact ⟨L, hq_simplex hI (by omega) (fun r t' k i => hr_key h hg k i)⟩
theorem hr_number {t : XT} {z : Nat} {p1 : Int32} (h : hr t z) : ∃ k, wqX12_number k t p1 (fun _ t' => hr t' z) := by
  obtain ⟨hz, e0, hx, m, n, hI, hg⟩ := id h
  obtain ⟨L, hL⟩ : ∃ L, L = 10000000100000 := ⟨_, rfl⟩
  exact ⟨L, hq_number (by omega) (fun r => h)⟩
theorem hr_sign {t : XT} {z : Nat} {p1 p2 : Int32} (h : hr t z) : ∃ k, wqX12_sign k t p1 p2 (fun _ t' => hr t' z) := by
  obtain ⟨hz, e0, hx, m, n, hI, hg⟩ := id h
  obtain ⟨L, hL⟩ : ∃ L, L = 10000000100000 := ⟨_, rfl⟩
  exact ⟨L, hq_sign hI.1 hI.2.1 (by omega) (fun r => h)⟩
theorem hr_pair {t : XT} {z : Nat} {p1 p2 : Int32} (h : hr t z) : ∃ k, wqX12_pair k t p1 p2 (fun _ t' => hr t' z) := by
  obtain ⟨hz, e0, hx, m, n, hI, hg⟩ := id h
  obtain ⟨L, hL⟩ : ∃ L, L = 10000000100000 := ⟨_, rfl⟩
  exact ⟨L, hq_pair hI (by omega) (fun r t' n' k i => hr_key h hg k i)⟩
theorem hr_part {t : XT} {z : Nat} {p1 : Int32} (h : hr t z) : ∃ k, wqX12_part k t p1 (fun _ t' => hr t' z) := by
  obtain ⟨hz, e0, hx, m, n, hI, hg⟩ := id h
  obtain ⟨L, hL⟩ : ∃ L, L = 10000000100000 := ⟨_, rfl⟩
  exact ⟨L, hq_part hI (by omega) (fun r t' n' k i => hr_key h hg k i)⟩
theorem hr_auto {t : XT} {z : Nat} {p1 : Int32} (h : hr t z) : ∃ k, wqX12_auto k t p1 (fun _ t' => hr t' z) := by
  obtain ⟨hz, e0, hx, m, n, hI, hg⟩ := id h
  obtain ⟨L, hL⟩ : ∃ L, L = 10000000100000 := ⟨_, rfl⟩
  exact ⟨L, hq_auto hI (by omega) (fun r t' n' k i => hr_key h hg k i)⟩
theorem hr_cancel {t : XT} {z : Nat} {p1 p2 : Int32} (h : hr t z) : ∃ k, wqX12_cancel k t p1 p2 (fun _ t' => hr t' z) := by
  obtain ⟨hz, e0, hx, m, n, hI, hg⟩ := id h
  obtain ⟨L, hL⟩ : ∃ L, L = 10000000100000 := ⟨_, rfl⟩
  exact ⟨L, hq_cancel hI (by omega) (fun r t' n' k i => hr_key h hg k i)⟩
theorem hr_collapse {t : XT} {z : Nat} {p1 : Int32} (h : hr t z) : ∃ k, wqX12_collapse k t p1 (fun _ t' => hr t' z) := by
  obtain ⟨hz, e0, hx, m, n, hI, hg⟩ := id h
  obtain ⟨L, hL⟩ : ∃ L, L = 10000000100000 := ⟨_, rfl⟩
  exact ⟨L, hq_collapse hI (by omega) (fun r t' n' k i => hr_key h hg k i)⟩
theorem hr_undo {t : XT} {z : Nat} (h : hr t z) : ∃ k, wqX12_undo k t  (fun _ t' => hr t' z) := by
  obtain ⟨hz, e0, hx, m, n, hI, hg⟩ := id h
  obtain ⟨L, hL⟩ : ∃ L, L = 10000000100000 := ⟨_, rfl⟩
  exact ⟨L, hq_undo hI (by omega) (fun r t' n' k i => hr_key h hg k i)⟩
theorem hr_critical {t : XT} {z : Nat} {p1 p2 : Int32} (h : hr t z) : ∃ k, wqX12_critical k t p1 p2 (fun _ t' => hr t' z) := by
  obtain ⟨hz, e0, hx, m, n, hI, hg⟩ := id h
  obtain ⟨L, hL⟩ : ∃ L, L = 10000000100000 := ⟨_, rfl⟩
  exact ⟨L, hq_critical hI.1 hI.2.1 (by omega) (fun r => h)⟩
theorem hr_paths {t : XT} {z : Nat} {p1 p2 : Int32} (h : hr t z) : ∃ k, wqX12_paths k t p1 p2 (fun _ t' => hr t' z) := by
  obtain ⟨hz, e0, hx, m, n, hI, hg⟩ := id h
  obtain ⟨L, hL⟩ : ∃ L, L = 10000000100000 := ⟨_, rfl⟩
  exact ⟨L, hq_paths hI (by omega) (fun r t' k i => hr_key h hg k i)⟩
theorem hr_path {t : XT} {z : Nat} {p1 p2 p3 p4 : Int32} (h : hr t z) : ∃ k, wqX12_path k t p1 p2 p3 p4 (fun _ t' => hr t' z) := by
  obtain ⟨hz, e0, hx, m, n, hI, hg⟩ := id h
  obtain ⟨L, hL⟩ : ∃ L, L = 10000000100000 := ⟨_, rfl⟩
  exact ⟨L, hq_pathCall hI (by omega) (fun r t' k i => hr_key h hg k i)⟩
theorem hr_incidence {t : XT} {z : Nat} {p1 p2 : Int32} (h : hr t z) : ∃ k, wqX12_incidence k t p1 p2 (fun _ t' => hr t' z) := by
  obtain ⟨hz, e0, hx, m, n, hI, hg⟩ := id h
  obtain ⟨L, hL⟩ : ∃ L, L = 10000000100000 := ⟨_, rfl⟩
  exact ⟨L, hq_incidence hI (by omega) (fun r t' k i => hr_key h hg k i)⟩
theorem hr_chain {t : XT} {z : Nat} {p1 p2 : Int32} (h : hr t z) : ∃ k, wqX12_chain k t p1 p2 (fun _ t' => hr t' z) := by
  obtain ⟨hz, e0, hx, m, n, hI, hg⟩ := id h
  obtain ⟨L, hL⟩ : ∃ L, L = 10000000100000 := ⟨_, rfl⟩
  exact ⟨L, hq_chain hI (by omega) (fun r t' k i => hr_key h hg k i)⟩
theorem hr_root {t : XT} {z : Nat} {p1 p2 : Int32} (h : hr t z) : ∃ k, wqX12_root k t p1 p2 (fun _ t' => hr t' z) := by
  obtain ⟨hz, e0, hx, m, n, hI, hg⟩ := id h
  obtain ⟨L, hL⟩ : ∃ L, L = 10000000100000 := ⟨_, rfl⟩
  exact ⟨L, hq_root hI hg (by omega) (fun r => h)⟩
theorem hr_through {t : XT} {z : Nat} {p1 p2 p3 : Int32} (h : hr t z) : ∃ k, wqX12_through k t p1 p2 p3 (fun _ t' => hr t' z) := by
  obtain ⟨hz, e0, hx, m, n, hI, hg⟩ := id h
  obtain ⟨L, hL⟩ : ∃ L, L = 10000000100000 := ⟨_, rfl⟩
  exact ⟨L, hq_through hI (by omega) (fun r t' k i => hr_key h hg k i)⟩
theorem hr_squares {t : XT} {z : Nat} (h : hr t z) : ∃ k, wqX12_squares k t  (fun _ t' => hr t' z) := by
  obtain ⟨hz, e0, hx, m, n, hI, hg⟩ := id h
  obtain ⟨L, hL⟩ : ∃ L, L = 10000000100000 := ⟨_, rfl⟩
  exact ⟨L, hq_squares hI (by omega) (fun r t' k i => hr_key h hg k i)⟩
theorem hr_betti {K0 : Nat} (P : hq_point K0) {t : XT} {z : Nat} {p1 p2 : Int32} (h : hr t z) : ∃ k, wqX12_betti k t p1 p2 (fun _ t' => hr t' z) := by
  obtain ⟨hz, e0, hx, m, n, hI, hg⟩ := id h
  obtain ⟨L, hL⟩ : ∃ L, L = 10000000100000 + K0 := ⟨_, rfl⟩
  exact ⟨L, hq_betti P hI hg (by omega) (fun r t' k i => hr_key h hg k i)⟩
theorem hr_torsion {K0 : Nat} (P : hq_point K0) {t : XT} {z : Nat} {p1 p2 p3 : Int32} (h : hr t z) : ∃ k, wqX12_torsion k t p1 p2 p3 (fun _ t' => hr t' z) := by
  obtain ⟨hz, e0, hx, m, n, hI, hg⟩ := id h
  obtain ⟨L, hL⟩ : ∃ L, L = 10000000100000 + K0 := ⟨_, rfl⟩
  exact ⟨L, hq_torsion P hI hg (by omega) (fun r t' k i => hr_key h hg k i)⟩
theorem hr_slack {K0 : Nat} (P : hq_point K0) {t : XT} {z : Nat} {p1 : Int32} (h : hr t z) : ∃ k, wqX12_slack k t p1 (fun _ t' => hr t' z) := by
  obtain ⟨hz, e0, hx, m, n, hI, hg⟩ := id h
  obtain ⟨L, hL⟩ : ∃ L, L = 10000000100000 + K0 := ⟨_, rfl⟩
  exact ⟨L, hq_slack P hI hg (by omega) (fun r t' k i => hr_key h hg k i)⟩
theorem hr_free {t : XT} {z : Nat} {p1 : Int32} (h : hr t z) : ∃ k, wqX12_free k t p1 (fun _ t' => hr t' z) := by
  obtain ⟨hz, e0, hx, m, n, hI, hg⟩ := id h
  obtain ⟨L, hL⟩ : ∃ L, L = 10000000100000 := ⟨_, rfl⟩
  exact ⟨L, hq_freeCall hI.1 hI.2.1 (by omega) (fun r => h)⟩
theorem hr_facet {t : XT} {z : Nat} {p1 : Int32} (h : hr t z) : ∃ k, wqX12_facet k t p1 (fun _ t' => hr t' z) := by
  obtain ⟨hz, e0, hx, m, n, hI, hg⟩ := id h
  obtain ⟨L, hL⟩ : ∃ L, L = 10000000100000 := ⟨_, rfl⟩
  exact ⟨L, hq_facet hI.1 hI.2.1 (by omega) (fun r => h)⟩
theorem hr_link {t : XT} {z : Nat} {p1 p2 : Int32} (h : hr t z) : ∃ k, wqX12_link k t p1 p2 (fun _ t' => hr t' z) := by
  obtain ⟨hz, e0, hx, m, n, hI, hg⟩ := id h
  obtain ⟨L, hL⟩ : ∃ L, L = 10000000100000 := ⟨_, rfl⟩
  exact ⟨L, hq_link hI.1 hI.2.1 hg (by omega) (fun r => h)⟩
theorem hr_room {t : XT} {z : Nat} {p1 : Int32} (h : hr t z) : ∃ k, wqX12_room k t p1 (fun _ t' => hr t' z) := by
  obtain ⟨hz, e0, hx, m, n, hI, hg⟩ := id h
  obtain ⟨L, hL⟩ : ∃ L, L = 10000000100000 := ⟨_, rfl⟩
  exact ⟨L, hq_room hI (by omega) (fun r t' k i => hr_key h hg k i)⟩
theorem hr_drawn {t : XT} {z : Nat} {p1 p2 : Int32} (h : hr t z) : ∃ k, wqX12_drawn k t p1 p2 (fun _ t' => hr t' z) := by
  obtain ⟨hz, e0, hx, m, n, hI, hg⟩ := id h
  obtain ⟨L, hL⟩ : ∃ L, L = 10000000100000 := ⟨_, rfl⟩
  exact ⟨L, hq_drawn hI hx (by omega) (fun r t' k i => hr_key h hg k i)⟩
theorem hr_level {t : XT} {z : Nat} {p1 p2 : Int32} (h : hr t z) : ∃ k, wqX12_level k t p1 p2 (fun _ t' => hr t' z) := by
  obtain ⟨hz, e0, hx, m, n, hI, hg⟩ := id h
  obtain ⟨L, hL⟩ : ∃ L, L = 10000000100000 := ⟨_, rfl⟩
  exact ⟨L, hq_level hI (by omega) (fun r t' k i => hr_key h hg k i)⟩
theorem hr_levelBetti {K0 : Nat} (P : hq_point K0) {t : XT} {z : Nat} {p1 p2 : Int32} (h : hr t z) : ∃ k, wqX12_levelBetti k t p1 p2 (fun _ t' => hr t' z) := by
  obtain ⟨hz, e0, hx, m, n, hI, hg⟩ := id h
  obtain ⟨L, hL⟩ : ∃ L, L = 10000000100000 + K0 := ⟨_, rfl⟩
  exact ⟨L, hq_levelBetti P hI hg (by omega) (by omega) (fun r t' k i => hr_key h hg k i)⟩
theorem hr_keep {t : XT} {z : Nat} {p1 : Int32} (h : hr t z) : ∃ k, wqX12_keep k t p1 (fun _ t' => hr t' z) := by
  obtain ⟨hz, e0, hx, m, n, hI, hg⟩ := id h
  obtain ⟨L, hL⟩ : ∃ L, L = 10000000100000 := ⟨_, rfl⟩
  exact ⟨L, hq_keep hI (by omega) (fun r t' k i => hr_key h hg k i)⟩
theorem hr_same {t : XT} {z : Nat} {p1 : Int32} (h : hr t z) : ∃ k, wqX12_same k t p1 (fun _ t' => hr t' z) := by
  obtain ⟨hz, e0, hx, m, n, hI, hg⟩ := id h
  obtain ⟨L, hL⟩ : ∃ L, L = 10000000100000 := ⟨_, rfl⟩
  exact ⟨L, hq_same hI.1 hI.2.1 (by omega) (fun r => h)⟩
theorem hr_count {t : XT} {z : Nat} {p1 : Int32} (h : hr t z) : ∃ k, wqX12_count k t p1 (fun _ t' => hr t' z) := by
  obtain ⟨hz, e0, hx, m, n, hI, hg⟩ := id h
  obtain ⟨L, hL⟩ : ∃ L, L = 10000000100000 := ⟨_, rfl⟩
  exact ⟨L, hq_count hI (by omega) (fun r t' k i => hr_key h hg k i)⟩
theorem hr_draws {t : XT} {z : Nat} {p1 : Int32} (h : hr t z) : ∃ k, wqX12_draws k t p1 (fun _ t' => hr t' z) := by
  obtain ⟨hz, e0, hx, m, n, hI, hg⟩ := id h
  refine ⟨1 + 1, ?_⟩
  have w : ∀ (K : Nat) (Q : Int32 → XT → Prop), (0 ≤ p1 → Q (t.1 8) (sI t 8 p1)) → Q (-1) t → wqX12_draws (K + 1) t p1 Q := by
    intro K Q h1 h0
    show wbX12_draws_0 (wpX12_draws K) K t (uI (fun _ => 0) 1 p1) (fun _ => 0) Q
    exact ⟨fun g t2 e2 => by rw [e2]; exact h1 g, fun _ => h0⟩
  exact w 1 _ (fun g => ⟨hz, e0, g, m, n, hq_frame rfl rfl rfl rfl rfl rfl hI, hq_geo_rows rfl rfl hg⟩) h
theorem hr_complex {t : XT} {z : Nat} (h : hr t z) : ∃ k, wqX12_complex k t  (fun _ t' => hr t' 0) := by
  obtain ⟨hz, e0, hx, m, n, hI, hg⟩ := id h
  obtain ⟨L, hL⟩ : ∃ L, L = 10000000100000 := ⟨_, rfl⟩
  exact ⟨L, hq_complex hI hg e0 hz (by omega) (fun r t' m' n' a b i g => ⟨Nat.zero_le _, a, by rw [b]; exact hx, m', n', i, g⟩)⟩
theorem hr_end {t : XT} {z : Nat} {p1 : Int32} (h : hr t z) : ∃ k, wqX12_end k t p1 (fun _ t' => (∃ y, y ≤ z ∧ p1 = nI y ∧ hr t' y) ∨ ((∀ y, y ≤ z → p1 ≠ nI y) ∧ hr t' z)) := by
  obtain ⟨hz, e0, hx, m, n, hI, hg⟩ := id h
  obtain ⟨L, hL⟩ : ∃ L, L = 10000000100000 := ⟨_, rfl⟩
  exact ⟨L, hq_end e0 hz (by omega) (fun y hy e => Or.inl ⟨y, hy, e, Nat.le_trans hy hz, rfl, hx, m, n, hq_frame rfl rfl rfl rfl rfl rfl hI, hq_geo_rows rfl rfl hg⟩) (fun q => Or.inr ⟨q, h⟩)⟩
theorem hr_feed {t : XT} {z : Nat} {p1 p2 p3 p4 p5 : Int32} (h : hr t z) : ∃ k, wqX12_feed k t p1 p2 p3 p4 p5 (fun r t' => (z + 20 ≤ 160 ∧ r = nI (z + 20) ∧ hr t' (z + 20)) ∨ (¬ z + 20 ≤ 160 ∧ r = -1 ∧ hr t' z)) := by
  obtain ⟨hz, e0, hx, m, n, hI, hg⟩ := id h
  obtain ⟨L, hL⟩ : ∃ L, L = 10000000100000 := ⟨_, rfl⟩
  exact ⟨L, hq_feed e0 hz (by omega) (fun q G => Or.inl ⟨q, rfl, q, rfl, hx, m, n, hq_frame rfl rfl rfl rfl rfl rfl hI, hq_geo_rows rfl rfl hg⟩) (fun q => Or.inr ⟨q, rfl, h⟩)⟩
