/-! ===== complex, with all that it lays; the new objects ===== -/
theorem hpQ_st (t : XT) (B : Nat → Int32) (n p : Nat) (v : Int32) : hpQ (sI (hx_st t B n p) 1 v) = hpQ t := rfl
theorem hqQ_st (t : XT) (B : Nat → Int32) (p : Nat) (v w : Int32) : hqQ (sI (hq_st t B p v) 0 w) = hqQ t := rfl
theorem hac_complex (n : Nat) (tx tm : XT) (hJ : hAl (n + 1) tx tm) : ∃ k, wqX11_complex k tx (fun r1 tx' => ∃ k', wqX12_complex k' tm (fun r2 tm' => r1 = r2 ∧ hAl n tx' tm')) := by
  obtain ⟨hJ, c, L, hL, hE, hM, hPHK⟩ := hJ
  obtain ⟨k, w⟩ := hat_complex n tx tm hJ
  obtain ⟨z, x, hR, gx, hC, gy, gT⟩ := hJ
  obtain ⟨m, hI, _⟩ := id hC
  obtain ⟨hz, e0, _⟩ := id hR
  obtain ⟨o, ho⟩ : ∃ o, o = hrd (fun i => tm.2.2.1 0 i &&& 255) z 25 0 0 [] := ⟨_, rfl⟩
  have ho2 : hrd (tx.2.2.1 0) z 25 0 0 [] = o := by rw [ho]; exact hrd_ext hz gT 25 0 0 [] (by omega)
  have ex : wqX11_complex (k + 6000) tx (fun r t' => (¬ o.1 = 0 → r = -2 - o.1 ∧ hcE t' L c ∧ hpQ t' = hpQ tx) ∧ (o.1 = 0 → ∃ B' X, hrz B' (hrT o.2) ∧ hnS B' 5 1 (tx.2.2.1 2, 0) = X ∧ hcE t' X.1 X.2 ∧ hnL X.1 X.2 ∧ r = nI X.2 ∧ hcP t' X.2)) := hce_complex hI.1 hz ho2 (by omega) (fun no B' p' => ⟨fun _ => ⟨rfl, hcE_sI hE, hpQ_st _ _ _ _ _⟩, fun y => absurd y no⟩) (fun yes B' X t' a1 a2 a3 a4 a5 a6 a7 a8 => ⟨fun y => absurd yes y, fun _ => ⟨B', X, a1, a3, a4, hnL_of a6 a8 a5, rfl, a7⟩⟩)
  refine ⟨k + 6000, wiX11_complex (wmX11_complex (Nat.le_add_right k 6000) (fun _ _ h => h) w) ex (fun r1 tx' h g => ?_)⟩
  obtain ⟨k', w'⟩ := h
  have em : wqX12_complex (k' + 30000) tm (fun r t' => (¬ o.1 = 0 → r = -2 - o.1 ∧ hmE t' L c ∧ hqQ t' = hqQ tm) ∧ (o.1 = 0 → ∃ B' X, hrz B' (hrT o.2) ∧ hnS B' 5 1 (tm.2.2.1 2, 0) = X ∧ hmE t' X.1 X.2 ∧ r = nI X.2 ∧ hmP t' X.2)) := hme_complex e0 hz ho.symm (by omega) (fun no B' p' => ⟨fun _ => ⟨rfl, hmE_st hM, hqQ_st _ _ _ _ _⟩, fun y => absurd y no⟩) (fun yes B' X t' a1 a2 a3 a4 a5 a6 => ⟨fun y => absurd yes y, fun _ => ⟨B', X, a1, a2, a3, rfl, a5⟩⟩)
  refine ⟨k' + 30000, wiX12_complex (wmX12_complex (Nat.le_add_right k' 30000) (fun _ _ h => h) w') em (fun r2 tm' h' g' => ?_)⟩
  by_cases yes : o.1 = 0
  · obtain ⟨B1, X, b1, b2, b3, b4, b5, b6⟩ := g.2 yes
    obtain ⟨B2, Y, d1, d2, d3, d5, d6⟩ := g'.2 yes
    have e : hnE X Y := by rw [← b2, ← d2]; exact hnS_eq (hrz_two b1 d1) 5 1 _ _ (hnE_0 _ _)
    obtain ⟨p1, p2, p3, p4, p5, p6⟩ := b6
    rw [← e.1] at d6
    obtain ⟨q1, q2, q3, q4⟩ := d6
    obtain ⟨_, _, _, _, hC', _⟩ := id h'
    obtain ⟨_, hI', _⟩ := id hC'
    obtain ⟨h9, hh9, e9⟩ := hI'.2.2.2.2.1
    refine ⟨by rw [b5, d5, e.1], h', X.2, X.1, b4, b3, hmE_eq e d3, ⟨fun k hk => (p1 k).trans (q1 k hk).symm, fun k _ _ => p1 k, fun k => ?_, fun k => ?_, fun k => ?_⟩, ⟨0, q3, by omega, p5, h9, hh9, e9, fun i hi => absurd hi (Nat.not_lt_zero i)⟩, fun i hi => ⟨?_, fun w => absurd (q4 i hi) w⟩⟩
    · rw [p2 k]; exact ⟨fun w => ⟨w, fun y => y (q2 k w)⟩, fun w => w.1⟩
    · rw [p3, hb_0]; exact ⟨fun w => absurd w (by decide), fun w => absurd (q1 k w.1) w.2.1⟩
    · rw [p4, hb_0]; exact ⟨fun w => absurd w (by decide), fun w => absurd (q1 k w.1) w.2.1⟩
    · rw [p6, hb_0]; exact ⟨fun w => absurd w (by decide), fun w => absurd (q4 i hi) w⟩
  · exact ⟨(g.1 yes).1.trans (g'.1 yes).1.symm, h', c, L, hL, (g.1 yes).2.1, (g'.1 yes).2.1, hAl_fr (g.1 yes).2.2 (g'.1 yes).2.2 hPHK⟩
theorem hAl_dn (n : Nat) (tx tm : XT) (h : hAl (n + 1) tx tm) : hAl n tx tm := ⟨hJt_dn n tx tm h.1, h.2⟩
theorem hAl_0 : hAl 513 tx0 tm0 := by
  obtain ⟨hJ, c, L, hL, hE, hM⟩ := hJs_0
  have c0 : c = 0 := (nI_eq (b := 0) (by have := hL.1; omega) (by omega)).mp hE.1.symm
  subst c0
  refine ⟨hJ, 0, L, hL, hE, hM, ⟨fun k hk => absurd hk (Nat.not_lt_zero k), fun k _ _ => rfl, fun k => ?_, fun k => ?_, fun k => ?_⟩, ⟨0, rfl, by omega, rfl, 0, by omega, rfl, fun i hi => absurd hi (Nat.not_lt_zero i)⟩, fun i hi => ⟨?_, fun w => absurd rfl w⟩⟩
  · exact ⟨fun w => absurd ((hb_0 k).symm.trans w) (by decide), fun w => absurd w.1 (Nat.not_lt_zero k)⟩
  · exact ⟨fun w => absurd ((hb_0 k).symm.trans w) (by decide), fun w => absurd w.1 (Nat.not_lt_zero k)⟩
  · exact ⟨fun w => absurd ((hb_0 k).symm.trans w) (by decide), fun w => absurd w.1 (Nat.not_lt_zero k)⟩
  · exact ⟨fun w => absurd ((hb_0 i).symm.trans w) (by decide), fun w => absurd rfl w⟩
