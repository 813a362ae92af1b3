/-! ===== keep, complex answer alike, with all that they change ===== -/
def hkp (j c : Nat) (p G : Nat → Int32) : Nat → Int32 := fun q => if 60 * j ≤ q ∧ q < 60 * j + c then p (q - 60 * j) else G q
theorem hkp_step (j c : Nat) (p G : Nat → Int32) : upd (hkp j c p G) (60 * j + c) (p c) = hkp j (c + 1) p G := by
  funext q
  show (if q = 60 * j + c then p c else hkp j c p G q) = hkp j (c + 1) p G q
  unfold hkp
  by_cases x : q = 60 * j + c
  · rw [if_pos x, if_pos (by omega), x, Nat.add_sub_cancel_left]
  · rw [if_neg x]
    by_cases y : 60 * j ≤ q ∧ q < 60 * j + c
    · rw [if_pos y, if_pos (by omega)]
    · rw [if_neg y, if_neg (by omega)]
theorem hmx_keep_go {t : XT} {m j : Nat} {G0 : Nat → Int32} {lj : Nat → Int64} {Q : Int32 → XT → Prop} (hm : t.1 3 = nI m) (hm60 : m ≤ 60) (hj : j ≤ 2) (hQ : Q (hm_cnt (fun k => hm_ind (hm_low t k)) m) (sA t 15 (hkp j m (t.2.2.1 4) G0))) :
    ∀ (d c K : Nat) (li : Nat → Int32), c + d = m → d + 90 ≤ K → li 1 = nI j → li 2 = nI c → wpX12_keep K 2 (sA t 15 (hkp j c (t.2.2.1 4) G0)) li lj Q := by
  intro d
  induction d with
  | zero =>
    intro c K li hd hK e1 e2
    obtain ⟨K, rfl⟩ : ∃ K', K = K' + 1 := ⟨K - 1, by omega⟩
    obtain rfl : c = m := by omega
    show wbX12_keep_2 (wpX12_keep K) K (sA t 15 (hkp j c (t.2.2.1 4) G0)) li lj Q
    refine ⟨fun _ => hm_pairMany (t := sA t 15 (hkp j c (t.2.2.1 4) G0)) hm hm60 (by omega) hQ, fun x => absurd ?_ x⟩
    show t.1 3 ≤ li 2
    rw [hm, e2]; exact nI_le (by omega) (by omega)
  | succ d ih =>
    intro c K li hd hK e1 e2
    obtain ⟨K, rfl⟩ : ∃ K', K = K' + 1 := ⟨K - 1, by omega⟩
    show wbX12_keep_2 (wpX12_keep K) K (sA t 15 (hkp j c (t.2.2.1 4) G0)) li lj Q
    unfold wbX12_keep_2
    rw [e1, e2]
    refine ⟨fun x => absurd (show t.1 3 ≤ nI c from x) (by rw [hm]; exact nI_ge (by omega) (by omega)), fun _ v7 e7 v8 e8 => ?_⟩
    have e8 : v8 = nI (60 * j + c) := by
      rw [e8, e7, hq_60 j (by omega)]; exact nI_add _ _
    subst e8
    have c8 : (nI (60 * j + c)).toNatClampNeg = 60 * j + c := nI_clamp (by omega)
    have cc : (nI c).toNatClampNeg = c := nI_clamp (by omega)
    refine ⟨vp_in_nI (by omega) (by decide), fun v9 e9 => ⟨vp_in_nI (by omega) (by decide), fun t10 e10 v11 e11 => ?_⟩⟩
    have e9 : v9 = t.2.2.1 4 c := e9.trans (congrArg (t.2.2.1 4) cc)
    rw [hm_sAA, c8, e9] at e10
    have e10 : t10 = sA t 15 (hkp j (c + 1) (t.2.2.1 4) G0) := e10.trans (congrArg (sA t 15) (hkp_step j c (t.2.2.1 4) G0))
    rw [e10]
    exact ih (c + 1) K (uI li 2 v11) (by omega) (by omega) e1 (e11.trans (hs_inc c))
theorem hkp_0 (j : Nat) (p G : Nat → Int32) : hkp j 0 p G = G := by
  funext q
  exact if_neg (by omega)
theorem hmx_keep {t : XT} {m K : Nat} {a : Int32} {Q : Int32 → XT → Prop} (hm : t.1 3 = nI m) (hm60 : m ≤ 60) (hK : 300 ≤ K)
    (h1 : ∀ j, j ≤ 2 → a = nI j → m ≠ 0 → Q (hm_cnt (fun k => hm_ind (hm_low t k)) m) (sA (sA t 14 (upd (t.2.2.1 14) j 1)) 15 (hkp j m (t.2.2.1 4) (t.2.2.1 15)))) (h0 : (m = 0 ∨ ∀ j, j ≤ 2 → a ≠ nI j) → Q (-1) t) : wqX12_keep K t a Q := by
  obtain ⟨K, rfl⟩ : ∃ K', K = K' + 2 := ⟨K - 2, by omega⟩
  show wbX12_keep_0 (wpX12_keep (K + 1)) (K + 1) t (uI (fun _ => 0) 1 a) (fun _ => 0) Q
  refine ⟨fun z => h0 (Or.inl ?_), fun z => ?_⟩
  · exact (nI_eq (b := 0) (by omega) (by omega)).mp (hm.symm.trans z)
  have m0 : m ≠ 0 := fun q => z (by rw [hm, q]; rfl)
  refine hm_in (v := a) (lo := 0) (hi := 2) (by omega) ?_
  by_cases c : (0 : Int32) ≤ a ∧ a ≤ 2
  · rw [if_pos c]
    obtain ⟨j, hj, ej⟩ := hq_02 c
    have out := h1 j hj ej m0
    subst ej
    have cj : (nI j).toNatClampNeg = j := nI_clamp (by omega)
    refine ⟨fun _ => ⟨vp_in_nI (n := j) (by omega) (by decide), fun t4 e4 => ?_⟩, fun x => absurd x (by decide)⟩
    have e4 : t4 = sA t 14 (upd (t.2.2.1 14) j 1) := e4.trans (by show sA t 14 (upd (t.2.2.1 14) (nI j).toNatClampNeg (vp_nar .boolean 1)) = _; rw [cj]; rfl)
    rw [e4]
    have g := hmx_keep_go (t := sA t 14 (upd (t.2.2.1 14) j 1)) (j := j) (G0 := t.2.2.1 15) (lj := fun _ => 0) hm hm60 hj out m 0 (K + 1) (uI (uI (fun _ => 0) 1 (nI j)) 2 0) (by omega) (by omega) rfl rfl
    rw [hkp_0] at g
    have s : sA (sA t 14 (upd (t.2.2.1 14) j 1)) 15 (t.2.2.1 15) = sA t 14 (upd (t.2.2.1 14) j 1) := hm_sA0 (sA t 14 (upd (t.2.2.1 14) j 1)) 15
    rw [s] at g
    exact g
  · rw [if_neg c]
    refine ⟨fun x => absurd rfl x, fun _ => h0 (Or.inr (fun j hj e => c ?_))⟩
    rw [e]
    exact ⟨nI_pos' (by omega), show nI j ≤ nI 2 from nI_le hj (by omega)⟩
theorem hpx_store {t : XT} {c j K : Nat} {P : Nat → Int32} {G : Nat → Prop} {Q : XT → Prop} (hX : hpX t c P G) (hc : c ≤ 60) (hj : j < 3) (hK : 2 ≤ K)
    (hQ : ∀ t', hpX t' c P G → (t'.1 8, t'.1 9, t'.2.2.1 9, t'.2.2.2 6) = (t.1 8, t.1 9, t.2.2.1 9, t.2.2.2 6) → (∀ i, hb (t'.2.1 6) i = true ↔ (hb (t.2.1 6) i = true ∨ i = j)) → (∀ k, k < c → t'.2.2.1 10 (64 * j + k) = P k) → (∀ k, c ≤ k → k < 64 → t'.2.2.1 10 (64 * j + k) = -1) → (∀ i k, i ≠ j → k < 64 → t'.2.2.1 10 (64 * i + k) = t.2.2.1 10 (64 * i + k)) → Q t') : wqX4_store_c4 K t (nI j) Q := by
  obtain ⟨K, rfl⟩ : ∃ K', K = K' + 1 := ⟨K - 1, by omega⟩
  show wbX4_store_c4_0 (wpX4_store_c4 K) K t (uI (fun _ => 0) 1 (nI j)) (fun _ => 0) Q
  intro v1 e1
  have e1 : v1 = nI (64 * j) := e1.trans (hz_64 j (by omega))
  have c64 : (nI (64 * j)).toNatClampNeg = 64 * j := nI_clamp (by omega)
  subst e1
  have z0 : (0 : Int32).toNatClampNeg = 0 := by decide
  have z64 : (64 : Int32).toNatClampNeg = 64 := by decide
  refine ⟨by decide, nI_pos (by omega), by decide, by decide, by rw [c64, z64]; omega, fun t2 e2 => hw_bit (k := j) (by omega) (by omega) (fun r3 g3 v4 e4 t5 e5 => ?_)⟩
  rw [c64, z0, z64] at e2
  have r10 : t5.2.2.1 10 = va_cpy (t.2.2.1 5) (t.2.2.1 10) 0 (64 * j) 64 := by rw [e5, e2]; rfl
  have l6 : t5.2.1 6 = t.2.1 6 ||| r3 := by rw [e5, e4, e2]; rfl
  have at10 : ∀ k, k < 64 → t5.2.2.1 10 (64 * j + k) = t.2.2.1 5 k := by
    intro k hk
    rw [r10]
    show (if 64 * j ≤ 64 * j + k ∧ 64 * j + k < 64 * j + 64 then t.2.2.1 5 (0 + (64 * j + k - 64 * j)) else t.2.2.1 10 (64 * j + k)) = _
    rw [if_pos (by omega), show 0 + (64 * j + k - 64 * j) = k by omega]
  refine hQ t5 ?_ (by rw [e5, e2]; rfl) (fun i => ?_) (fun k hk => (at10 k (by omega)).trans (hX.1 k hk)) (fun k h1 h2 => (at10 k h2).trans (hX.2.1 k h1 h2)) (fun i k hi hk => ?_)
  · rw [e5, e2]; exact hX
  · rw [l6, hb_or, hb_one g3, Bool.or_eq_true]
    exact or_congr Iff.rfl ⟨fun w => (of_decide_eq_true w).symm, fun w => decide_eq_true w.symm⟩
  · rw [r10]; exact if_neg (by omega)
theorem hpx_keep0 {K : Nat} {t : XT} {a : Int32} {Q : Int32 → XT → Prop} (h : wbX11_keep_0 (wpX11_keep (K + 1)) (K + 1) t (uI (fun _ => 0) 1 a) (fun _ => 0) Q) : wqX11_keep (K + 2) t a Q := h
theorem hac_keep (n : Nat) (tx tm : XT) (p1 : Int32) (hJ : hAl (n + 1) tx tm) : ∃ k, wqX11_keep k tx p1 (fun r1 tx' => ∃ k', wqX12_keep k' tm p1 (fun r2 tm' => r1 = r2 ∧ hAl n tx' tm')) := by
  obtain ⟨hJ, c, L, hL, hE, hM, hP, hH, hK⟩ := hJ
  have hc := hL.1
  obtain ⟨KA, hKA⟩ : ∃ KA, KA = 300 := ⟨_, rfl⟩
  refine hfi_keep (A := KA + 2) (B := KA) hJ hL hE hM ?_
  have same : ∀ {tx'}, hHJ tx tm c → (tx'.1 8, tx'.1 9, tx'.2.2.1 9, tx'.2.2.2 6) = (tx.1 8, tx.1 9, tx.2.2.1 9, tx.2.2.2 6) → ∀ A B, hHJ tx' (sA (sA tm 14 A) 15 B) c := by
    intro tx' h e A B
    obtain ⟨nh, a, b⟩ := h
    exact ⟨nh, a, hhX_fr b (congrArg (fun q => q.1) e) (congrArg (fun q => q.2.1) e) (congrArg (fun q => q.2.2.1) e) (congrArg (fun q => q.2.2.2) e)⟩
  -- where nothing is kept
  have none : (c = 0 ∨ ∀ j, j ≤ 2 → p1 ≠ nI j) → wqX12_keep KA tm p1 (fun r2 tm' => (-1 : Int32) = r2 ∧ hPJ tx tm' c ∧ hHJ tx tm' c ∧ hKJ tx tm' c) := by
    intro no
    refine hmx_keep hM.1 hc (by omega) (fun j hj e m0 => ?_) (fun _ => ⟨rfl, hP, hH, hK⟩)
    rcases no with q | q
    · exact absurd q m0
    · exact absurd e (q j hj)
  refine hpx_keep0 ?_
  refine ⟨fun z => none (Or.inr (fun j hj e => ?_)), fun y => ⟨fun z => none (Or.inr (fun j hj e => ?_)), fun z => ?_⟩⟩
  · have z : p1 < 0 := z
    rw [e] at z
    exact absurd z (nI_pos (by omega))
  · have z : (3 : Int32) ≤ p1 := z
    rw [e] at z
    exact absurd (show nI 3 ≤ nI j from z) (nI_ge (by omega) (by omega))
  · have y : ¬ p1 < 0 := y
    have z : ¬ (3 : Int32) ≤ p1 := z
    obtain ⟨j, hj31, ej⟩ := nI_of (x := p1) y
    have hj : j < 3 := Nat.lt_of_not_le (fun q => z (by rw [ej]; exact show nI 3 ≤ nI j from nI_le q hj31))
    rw [hE.1]
    refine ⟨fun ne => ?_, fun q => none (Or.inl ((nI_eq (b := 0) (by omega) (by omega)).mp q))⟩
    have c0 : c ≠ 0 := fun q => ne (by rw [q]; rfl)
    show wqX4_store_c4 (KA + 1) tx p1 _
    rw [ej]
    refine hpx_store hP hc hj (by omega) (fun t4 x4 k4 b4 q1 q2 q3 => hpx_howMany x4 hc (by omega) ?_)
    rw [ej] at none
    refine hmx_keep hM.1 hc (by omega) (fun j' hj' e m0 => ?_) (fun w => absurd w (fun w => w.elim c0 (fun w => w j (by omega) rfl)))
    have jj : j' = j := (nI_eq (by omega) (by omega)).mp e.symm
    subst jj
    refine ⟨rfl, x4, same hH k4 _ _, fun i hi => ?_⟩
    by_cases ij : i = j'
    · subst ij
      refine ⟨⟨fun _ => ?_, fun _ => (b4 i).mpr (Or.inr rfl)⟩, fun _ => ⟨fun k hk => ?_, q2⟩⟩
      · show upd (tm.2.2.1 14) i 1 i ≠ 0
        rw [show upd (tm.2.2.1 14) i 1 i = 1 from if_pos rfl]; decide
      · show t4.2.2.1 10 (64 * i + k) = hkp i c (tm.2.2.1 4) (tm.2.2.1 15) (60 * i + k)
        rw [q1 k hk]
        unfold hkp
        rw [if_pos (by omega), Nat.add_sub_cancel_left]; rfl
    · have old := hK i hi
      have u14 : (sA (sA tm 14 (upd (tm.2.2.1 14) j' 1)) 15 (hkp j' c (tm.2.2.1 4) (tm.2.2.1 15))).2.2.1 14 i = tm.2.2.1 14 i := if_neg ij
      rw [u14]
      refine ⟨(b4 i).trans ⟨fun w => w.elim old.1.mp (fun w => absurd w ij), fun w => Or.inl (old.1.mpr w)⟩, fun w => ?_⟩
      obtain ⟨o1, o2⟩ := old.2 w
      refine ⟨fun k hk => ?_, fun k h1 h2 => (q3 i k ij h2).trans (o2 k h1 h2)⟩
      rw [q3 i k ij (by omega), o1 k hk]
      show _ = hkp j' c (tm.2.2.1 4) (tm.2.2.1 15) (60 * i + k)
      unfold hkp
      rw [if_neg (by omega)]
