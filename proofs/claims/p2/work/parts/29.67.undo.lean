/-! ===== undo answers alike ===== -/
theorem hmx_undo_go {t : XT} {n : Nat} {lj : Nat → Int64} {Q : Int32 → XT → Prop} (hn : n ≤ 15) (h4 : t.1 4 = nI n) (hQ : ∀ G : Nat → Int32, (∀ k, k < 60 → (G k = 0 ↔ t.2.2.1 8 (120 * n + 60 + k) ≠ 1)) → Q (nI n) (sA (sA t 4 (hq_lay 60 (120 * n) (t.2.2.1 8) (t.2.2.1 4))) 5 G)) :
    ∀ (d c K : Nat) (li : Nat → Int32) (G : Nat → Int32), c + d = 60 → 2 * d + 2 ≤ K → li 1 = nI (120 * n) → li 2 = nI c → (∀ k, k < c → (G k = 0 ↔ t.2.2.1 8 (120 * n + 60 + k) ≠ 1)) → wpX12_undo K 1 (sA (sA t 4 (hq_lay c (120 * n) (t.2.2.1 8) (t.2.2.1 4))) 5 G) li lj Q := by
  intro d
  induction d with
  | zero =>
    intro c K li G hd hK e1 e2 hG
    obtain ⟨K, rfl⟩ : ∃ K', K = K' + 1 := ⟨K - 1, by omega⟩
    obtain rfl : c = 60 := by omega
    show wbX12_undo_1 (wpX12_undo K) K (sA (sA t 4 (hq_lay 60 (120 * n) (t.2.2.1 8) (t.2.2.1 4))) 5 G) li lj Q
    refine ⟨fun _ => ?_, fun c => absurd ?_ c⟩
    · show Q (t.1 4) _
      rw [h4]; exact hQ G hG
    · show nI 60 ≤ li 2
      rw [e2]; exact nI_le (by omega) (by omega)
  | succ d ih =>
    intro c K li G hd hK e1 e2 hG
    obtain ⟨K, rfl⟩ : ∃ K', K = K' + 2 := ⟨K - 2, by omega⟩
    show wbX12_undo_1 (wpX12_undo (K + 1)) (K + 1) (sA (sA t 4 (hq_lay c (120 * n) (t.2.2.1 8) (t.2.2.1 4))) 5 G) li lj Q
    unfold wbX12_undo_1
    rw [e1, e2]
    refine ⟨fun x => absurd (show nI 60 ≤ nI c from x) (nI_ge (by omega) (by omega)), fun _ v6 e6 => ?_⟩
    have e6 : v6 = nI (120 * n + c) := e6.trans (nI_add _ _)
    subst e6
    refine ⟨vp_in_nI (by omega) (by decide), fun v7 e7 => ⟨vp_in_nI (by omega) (by decide), fun t8 e8 v9 e9 v10 e10 => ?_⟩⟩
    have e10 : v10 = nI (120 * n + 60 + c) := by
      rw [e10, e9]
      exact (congrArg (· + nI c) (nI_add (120 * n) 60)).trans (nI_add _ _)
    clear e9
    subst e10
    have cc : (nI c).toNatClampNeg = c := nI_clamp (by omega)
    have c6 : (nI (120 * n + c)).toNatClampNeg = 120 * n + c := nI_clamp (by omega)
    have e8' : t8 = sA (sA t 4 (hq_lay (c + 1) (120 * n) (t.2.2.1 8) (t.2.2.1 4))) 5 G := by
      rw [e8, e7]
      show sA (sA (sA t 4 (hq_lay c (120 * n) (t.2.2.1 8) (t.2.2.1 4))) 5 G) 4 (upd (hq_lay c (120 * n) (t.2.2.1 8) (t.2.2.1 4)) (nI c).toNatClampNeg (t.2.2.1 8 (nI (120 * n + c)).toNatClampNeg)) = _
      rw [hq_com5, cc, c6, hq_lay_step]
    clear e8
    subst e8'
    have nx : ∀ b : Int32, (vp_nar .boolean b = 0 ↔ t.2.2.1 8 (120 * n + 60 + c) ≠ 1) → wpX12_undo (K + 1) 2 (sA (sA t 4 (hq_lay (c + 1) (120 * n) (t.2.2.1 8) (t.2.2.1 4))) 5 G) (uI (uI li 102 b) 101 (nI c)) lj Q := by
      intro b hb
      show wbX12_undo_2 (wpX12_undo K) K (sA (sA t 4 (hq_lay (c + 1) (120 * n) (t.2.2.1 8) (t.2.2.1 4))) 5 G) (uI (uI li 102 b) 101 (nI c)) lj Q
      refine ⟨vp_in_nI (n := c) (by omega) (by decide), fun t13 e13 v14 e14 => ?_⟩
      have e14 : v14 = nI (c + 1) := by
        rw [e14]
        exact (congrArg (· + Int32.ofInt 1) e2).trans (hs_inc c)
      rw [hm_sAA] at e13
      have e13 : t13 = sA (sA t 4 (hq_lay (c + 1) (120 * n) (t.2.2.1 8) (t.2.2.1 4))) 5 (upd G (nI c).toNatClampNeg (vp_nar .boolean b)) := e13
      rw [cc] at e13
      rw [e13]
      refine ih (c + 1) K _ _ (by omega) (by omega) e1 e14 (fun k hk => ?_)
      by_cases x : k = c
      · rw [show upd G c (vp_nar .boolean b) k = vp_nar .boolean b from if_pos x, x]; exact hb
      · rw [show upd G c (vp_nar .boolean b) k = G k from if_neg x]; exact hG k (by omega)
    have c17 : (nI (120 * n + 60 + c)).toNatClampNeg = 120 * n + 60 + c := nI_clamp (by omega)
    refine ⟨vp_in_nI (by omega) (by decide), fun v11 e11 => ?_⟩
    rw [c17] at e11
    have e11 : v11 = t.2.2.1 8 (120 * n + 60 + c) := e11
    rw [← e11] at nx
    exact ⟨fun y => nx 0 ⟨fun _ => y, fun _ => by decide⟩, fun y => nx 1 ⟨fun z => absurd z (by decide), fun z => absurd y z⟩⟩
theorem hmx_undo {t : XT} {n K : Nat} {Q : Int32 → XT → Prop} (h4 : t.1 4 = nI (n + 1)) (hn : n ≤ 15) (hK : 200 ≤ K) (hQ : ∀ G : Nat → Int32, (∀ k, k < 60 → (G k = 0 ↔ t.2.2.1 8 (120 * n + 60 + k) ≠ 1)) → Q (nI n) (sA (sA (sI t 4 (nI n)) 4 (hq_lay 60 (120 * n) (t.2.2.1 8) (t.2.2.1 4))) 5 G)) : wqX12_undo K t Q := by
  obtain ⟨K, rfl⟩ : ∃ K', K = K' + 1 := ⟨K - 1, by omega⟩
  show wbX12_undo_0 (wpX12_undo K) K t (fun _ => 0) (fun _ => 0) Q
  refine ⟨fun _ v2 e2 t3 e3 v4 e4 => ?_, fun z => absurd (h4.symm.trans z) (fun w => by have := (nI_eq (b := 0) (by omega) (by omega)).mp w; omega)⟩
  have e2 : v2 = nI n := by rw [e2, h4]; exact nI_pred n
  rw [e2] at e3
  have e4 : v4 = nI (120 * n) := by
    rw [e4, e3]
    exact hq_120 n (by omega)
  rw [e3]
  have g := hmx_undo_go (t := sI t 4 (nI n)) (n := n) (lj := fun _ => 0) (Q := Q) hn rfl hQ 60 0 K (uI (uI (fun _ => 0) 1 v4) 2 0) ((sI t 4 (nI n)).2.2.1 5) (by omega) (by omega) e4 rfl (fun k hk => absurd hk (by omega))
  rw [hq_lay0, hm_sA0, hm_sA0] at g
  exact g
theorem hpx_undo {K : Nat} {t : XT} {Q : Int32 → XT → Prop} (h : wbX11_undo_0 (wpX11_undo K) K t (fun _ => 0) (fun _ => 0) Q) : wqX11_undo (K + 1) t Q := h
theorem hmx_undo0 {K : Nat} {t : XT} {Q : Int32 → XT → Prop} (h : wbX12_undo_0 (wpX12_undo K) K t (fun _ => 0) (fun _ => 0) Q) : wqX12_undo (K + 1) t Q := h
theorem hac_undo (n : Nat) (tx tm : XT) (hJ : hAl (n + 1) tx tm) : ∃ k, wqX11_undo k tx (fun r1 tx' => ∃ k', wqX12_undo k' tm (fun r2 tm' => r1 = r2 ∧ hAl n tx' tm')) := by
  obtain ⟨hJ, c, L, hL, hE, hM, hP, hH, hK⟩ := hJ
  have hc := hL.1
  obtain ⟨n', hI⟩ := hal_inv hJ hM hc
  obtain ⟨_, _, _, _, _, hn16, h4, hgood, _⟩ := hI
  obtain ⟨nh, e4, hHx⟩ := hH
  have nhn : nh = n' := (nI_eq (by have := hHx.1; omega) (by omega)).mp (e4.symm.trans h4)
  subst nhn
  obtain ⟨KA, hKA⟩ : ∃ KA, KA = 300 := ⟨_, rfl⟩
  refine hfi_undo (A := KA + 1) (B := KA + 1) hJ hL hE hM ?_
  refine hpx_undo ?_
  unfold wbX11_undo_0
  rw [hHx.2.1]
  refine ⟨fun ne => ?_, fun z => ?_⟩
  · obtain ⟨n1, rfl⟩ : ∃ n1, nh = n1 + 1 := ⟨nh - 1, by
      have : nh ≠ 0 := fun q => ne (by rw [q]; rfl)
      omega⟩
    have gd := hpM_of (t := sA tm 4 (fun k => tm.2.2.1 8 (120 * n1 + k))) (m := c) (hgood n1 (by omega)).1
    refine hhx_restore hHx hc gd (by omega) (fun t' k' h' x' => ?_)
    refine hmx_undo h4 (by omega) (by omega) (fun G hG => ?_)
    have j6 : t'.2.1 6 = tx.2.1 6 := congrArg (fun q => q.2.1) k'
    have r10 : t'.2.2.1 10 = tx.2.2.1 10 := congrArg (fun q => q.2.2.1.2.2.2) k'
    refine ⟨h'.2.1, hpX_ext x' (fun k hk => ?_) (fun k hk => ?_), ⟨n1, rfl, hhX_ext h' (fun i hi k hk => ⟨rfl, Iff.rfl⟩)⟩, hKJ_fr hK j6 r10 rfl rfl⟩
    · show hq_lay 60 (120 * n1) (tm.2.2.1 8) (tm.2.2.1 4) k = tm.2.2.1 8 (120 * n1 + k)
      exact if_pos (by omega)
    · show G k ≠ 0 ↔ hmB tm n1 k
      unfold hmB
      rw [Ne, hG k (by omega)]
      exact ⟨fun w => Classical.byContradiction w, fun w z => z w⟩
  · have n0 : nh = 0 := (nI_eq (b := 0) (by have := hHx.1; omega) (by omega)).mp z
    refine hmx_undo0 ?_
    refine ⟨fun w => absurd ?_ w, fun _ => ⟨rfl, hP, ⟨nh, e4, hHx⟩, hK⟩⟩
    rw [e4, n0]; rfl
