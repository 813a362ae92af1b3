/-! ===== count answers alike, but for the parts ===== -/
theorem hmx_count {t : XT} {L : Nat → Int32} {c K : Nat} {a : Int32} {Q : Int32 → XT → Prop} (hM : hmE t L c) (hL : hnL L c) (hK : 300 ≤ K) (n6 : a ≠ 6)
    (hn : a.toInt < 0 ∨ 9 < a.toInt → Q (-1) t)
    (h0 : a = 0 → Q (nI c) t)
    (h1 : a = 1 → Q (hm_cnt (fun k => hm_ind (hm_gone t k = 0)) c) t)
    (h2 : a = 2 → ∀ r, hgr L c 5 (fun k => hm_gone t k = 0) r → Q r t)
    (h3 : a = 3 → Q (hm_cnt (fun k => hm_ind (hm_low t k)) c) t)
    (h4 : a = 4 → Q (hm_cnt (fun k => hm_ind (¬ hm_gone t k ≠ 0 ∧ hm_par t k = -1)) c) t)
    (h5 : a = 5 → Q (hEu L c (fun k => hm_gone t k = 0) 5) t)
    (h7 : a = 7 → Q (t.1 4) t)
    (h8 : a = 8 → Q (t.1 8) t)
    (h9 : a = 9 → Q (t.1 0) t) : wqX12_count K t a Q := by
  have hc := hL.1
  obtain ⟨K, rfl⟩ : ∃ K', K = K' + 1 := ⟨K - 1, by omega⟩
  show wbX12_count_0 (wpX12_count K) K t (uI (fun _ => 0) 1 a) (fun _ => 0) Q
  refine ⟨hn, fun e => ?_, fun e => ?_, fun e => ?_, fun e => ?_, fun e => ?_, fun e => ?_, fun e => absurd e n6, h7, h8, h9⟩
  · rw [hM.1]; exact h0 e
  · exact hm_thereMany hM.1 hc (by omega) (h1 e)
  · exact hmx_gd hM hL (by omega) (h2 e)
  · exact hm_pairMany hM.1 hc (by omega) (h3 e)
  · exact hmx_crit hM.1 hc (by omega) (h4 e)
  · exact hmx_euler hM hL (by omega) (h5 e)
theorem hpx_count0 {K : Nat} {t : XT} {a : Int32} {Q : Int32 → XT → Prop} (h : wbX11_count_0 (wpX11_count K) K t (uI (fun _ => 0) 1 a) (fun _ => 0) Q) : wqX11_count (K + 1) t a Q := h
theorem hal_ends {n : Nat} {tx tm : XT} (h : hJt n tx tm) : tx.1 1 = tm.1 0 ∧ tx.1 0 = tm.1 8 := by
  obtain ⟨z, x, ⟨_, a, _⟩, b, ⟨m, ⟨c, _⟩, _⟩, d, _⟩ := h
  exact ⟨c.trans a.symm, d.trans b.symm⟩
theorem hac_count6 (n : Nat) (tx tm : XT) (p1 : Int32) (n6 : p1 ≠ 6) (hJ : hAl (n + 1) tx tm) : ∃ k, wqX11_count k tx p1 (fun r1 tx' => ∃ k', wqX12_count k' tm p1 (fun r2 tm' => r1 = r2 ∧ hAl n tx' tm')) := by
  obtain ⟨hJt0, c, L, hL, hE, hM, hP, hH, _⟩ := id hJ
  have hc := hL.1
  obtain ⟨KA, hKA⟩ : ∃ KA, KA = 1000 := ⟨_, rfl⟩
  obtain ⟨e0, e8⟩ := hal_ends hJt0
  obtain ⟨nh, f4, hHx⟩ := hH
  have bt : ∀ k, hb (tx.2.1 0) k = true ↔ (k < c ∧ hm_gone tm k = 0) := fun k => (hP.2.2.1 k).trans ⟨fun w => ⟨w.1, Classical.byContradiction w.2⟩, fun w => ⟨w.1, fun z => z w.2⟩⟩
  have ref := fun (r1 : Int32) => hmx_count (a := p1) (Q := fun r2 _ => r1 = r2) hM hL (K := KA) (by omega) n6
  refine hfa_count (A := KA + 1) (B := KA) hJ (hpx_count0 ⟨fun e => ?_, fun e => ?_, fun e => ?_, fun e => ?_, fun e => ?_, fun e => ?_, fun e => ?_, fun e => absurd e n6, fun e => ?_, fun e => ?_, fun e => ?_⟩)
  · have e : p1.toInt < 0 ∨ 9 < p1.toInt := e
    exact ref (-1) (fun _ => rfl) (fun w => by rw [show p1 = _ from w] at e; exact absurd e (by decide)) (fun w => by rw [show p1 = _ from w] at e; exact absurd e (by decide)) (fun w => by rw [show p1 = _ from w] at e; exact absurd e (by decide)) (fun w => by rw [show p1 = _ from w] at e; exact absurd e (by decide)) (fun w => by rw [show p1 = _ from w] at e; exact absurd e (by decide)) (fun w => by rw [show p1 = _ from w] at e; exact absurd e (by decide)) (fun w => by rw [show p1 = _ from w] at e; exact absurd e (by decide)) (fun w => by rw [show p1 = _ from w] at e; exact absurd e (by decide)) (fun w => by rw [show p1 = _ from w] at e; exact absurd e (by decide))
  · rw [hE.1]
    exact ref (nI c) (fun w => by rw [show p1 = _ from e] at w; exact absurd w (by decide)) (fun _ => rfl) (fun w => absurd ((show p1 = _ from e).symm.trans w) (by decide)) (fun w => absurd ((show p1 = _ from e).symm.trans w) (by decide)) (fun w => absurd ((show p1 = _ from e).symm.trans w) (by decide)) (fun w => absurd ((show p1 = _ from e).symm.trans w) (by decide)) (fun w => absurd ((show p1 = _ from e).symm.trans w) (by decide)) (fun w => absurd ((show p1 = _ from e).symm.trans w) (by decide)) (fun w => absurd ((show p1 = _ from e).symm.trans w) (by decide)) (fun w => absurd ((show p1 = _ from e).symm.trans w) (by decide))
  · refine hw_bc64 (by omega) ?_
    rw [hct bt (by omega)]
    exact ref _ (fun w => by rw [show p1 = _ from e] at w; exact absurd w (by decide)) (fun w => absurd ((show p1 = _ from e).symm.trans w) (by decide)) (fun _ => rfl) (fun w => absurd ((show p1 = _ from e).symm.trans w) (by decide)) (fun w => absurd ((show p1 = _ from e).symm.trans w) (by decide)) (fun w => absurd ((show p1 = _ from e).symm.trans w) (by decide)) (fun w => absurd ((show p1 = _ from e).symm.trans w) (by decide)) (fun w => absurd ((show p1 = _ from e).symm.trans w) (by decide)) (fun w => absurd ((show p1 = _ from e).symm.trans w) (by decide)) (fun w => absurd ((show p1 = _ from e).symm.trans w) (by decide))
  · refine hpx_gd hE bt (by omega) (fun r hr => ?_)
    exact ref r (fun w => by rw [show p1 = _ from e] at w; exact absurd w (by decide)) (fun w => absurd ((show p1 = _ from e).symm.trans w) (by decide)) (fun w => absurd ((show p1 = _ from e).symm.trans w) (by decide)) (fun _ r' hr' => hgr_uni hr hr') (fun w => absurd ((show p1 = _ from e).symm.trans w) (by decide)) (fun w => absurd ((show p1 = _ from e).symm.trans w) (by decide)) (fun w => absurd ((show p1 = _ from e).symm.trans w) (by decide)) (fun w => absurd ((show p1 = _ from e).symm.trans w) (by decide)) (fun w => absurd ((show p1 = _ from e).symm.trans w) (by decide)) (fun w => absurd ((show p1 = _ from e).symm.trans w) (by decide))
  · refine hpx_howMany hP hc (by omega) ?_
    exact ref _ (fun w => by rw [show p1 = _ from e] at w; exact absurd w (by decide)) (fun w => absurd ((show p1 = _ from e).symm.trans w) (by decide)) (fun w => absurd ((show p1 = _ from e).symm.trans w) (by decide)) (fun w => absurd ((show p1 = _ from e).symm.trans w) (by decide)) (fun _ => rfl) (fun w => absurd ((show p1 = _ from e).symm.trans w) (by decide)) (fun w => absurd ((show p1 = _ from e).symm.trans w) (by decide)) (fun w => absurd ((show p1 = _ from e).symm.trans w) (by decide)) (fun w => absurd ((show p1 = _ from e).symm.trans w) (by decide)) (fun w => absurd ((show p1 = _ from e).symm.trans w) (by decide))
  · refine hpx_criticalOnes hP hc (by omega) ?_
    exact ref _ (fun w => by rw [show p1 = _ from e] at w; exact absurd w (by decide)) (fun w => absurd ((show p1 = _ from e).symm.trans w) (by decide)) (fun w => absurd ((show p1 = _ from e).symm.trans w) (by decide)) (fun w => absurd ((show p1 = _ from e).symm.trans w) (by decide)) (fun w => absurd ((show p1 = _ from e).symm.trans w) (by decide)) (fun _ => rfl) (fun w => absurd ((show p1 = _ from e).symm.trans w) (by decide)) (fun w => absurd ((show p1 = _ from e).symm.trans w) (by decide)) (fun w => absurd ((show p1 = _ from e).symm.trans w) (by decide)) (fun w => absurd ((show p1 = _ from e).symm.trans w) (by decide))
  · refine hpx_euler hE hc bt (by omega) ?_
    exact ref _ (fun w => by rw [show p1 = _ from e] at w; exact absurd w (by decide)) (fun w => absurd ((show p1 = _ from e).symm.trans w) (by decide)) (fun w => absurd ((show p1 = _ from e).symm.trans w) (by decide)) (fun w => absurd ((show p1 = _ from e).symm.trans w) (by decide)) (fun w => absurd ((show p1 = _ from e).symm.trans w) (by decide)) (fun w => absurd ((show p1 = _ from e).symm.trans w) (by decide)) (fun _ => rfl) (fun w => absurd ((show p1 = _ from e).symm.trans w) (by decide)) (fun w => absurd ((show p1 = _ from e).symm.trans w) (by decide)) (fun w => absurd ((show p1 = _ from e).symm.trans w) (by decide))
  · exact ref (tx.1 8) (fun w => by rw [show p1 = _ from e] at w; exact absurd w (by decide)) (fun w => absurd ((show p1 = _ from e).symm.trans w) (by decide)) (fun w => absurd ((show p1 = _ from e).symm.trans w) (by decide)) (fun w => absurd ((show p1 = _ from e).symm.trans w) (by decide)) (fun w => absurd ((show p1 = _ from e).symm.trans w) (by decide)) (fun w => absurd ((show p1 = _ from e).symm.trans w) (by decide)) (fun w => absurd ((show p1 = _ from e).symm.trans w) (by decide)) (fun _ => hHx.2.1.trans f4.symm) (fun w => absurd ((show p1 = _ from e).symm.trans w) (by decide)) (fun w => absurd ((show p1 = _ from e).symm.trans w) (by decide))
  · exact ref (tx.1 0) (fun w => by rw [show p1 = _ from e] at w; exact absurd w (by decide)) (fun w => absurd ((show p1 = _ from e).symm.trans w) (by decide)) (fun w => absurd ((show p1 = _ from e).symm.trans w) (by decide)) (fun w => absurd ((show p1 = _ from e).symm.trans w) (by decide)) (fun w => absurd ((show p1 = _ from e).symm.trans w) (by decide)) (fun w => absurd ((show p1 = _ from e).symm.trans w) (by decide)) (fun w => absurd ((show p1 = _ from e).symm.trans w) (by decide)) (fun w => absurd ((show p1 = _ from e).symm.trans w) (by decide)) (fun _ => e8) (fun w => absurd ((show p1 = _ from e).symm.trans w) (by decide))
  · exact ref (tx.1 1) (fun w => by rw [show p1 = _ from e] at w; exact absurd w (by decide)) (fun w => absurd ((show p1 = _ from e).symm.trans w) (by decide)) (fun w => absurd ((show p1 = _ from e).symm.trans w) (by decide)) (fun w => absurd ((show p1 = _ from e).symm.trans w) (by decide)) (fun w => absurd ((show p1 = _ from e).symm.trans w) (by decide)) (fun w => absurd ((show p1 = _ from e).symm.trans w) (by decide)) (fun w => absurd ((show p1 = _ from e).symm.trans w) (by decide)) (fun w => absurd ((show p1 = _ from e).symm.trans w) (by decide)) (fun w => absurd ((show p1 = _ from e).symm.trans w) (by decide)) (fun _ => e0)
