/-! ===== room answers alike ===== -/
/-- the two could be a PAIR -/
def hrB (tm : XT) (c d f s : Nat) : Prop := hm_dim tm f = nI d ∧ hm_faceT tm f s ∧ hm_par tm f = -1 ∧ hm_par tm s = -1 ∧ hm_acyc (sA tm 4 (hq_two (tm.2.2.1 4) f s)) c
noncomputable def hrC (tm : XT) (c d f : Nat) : Nat → Int32 := fun s => hm_ind (hrB tm c d f s)
noncomputable def hrD (tm : XT) (c d : Nat) : Nat → Int32 := fun f => hm_cnt (hrC tm c d f) c
theorem hr_s (g : Nat → Int32) (n : Nat) : hm_cnt g (n + 1) = hm_cnt g n + g n := rfl
theorem hpx_roomAbove {tx tm : XT} {L : Nat → Int32} {c d f K : Nat} {v : Int64} {Q : Int32 → XT → Prop} (hE : hcE tx L c) (hP : hPJ tx tm c) (hM : hmE tm L c) (hL : hnL L c) (hMt : hm_match tm c) (hA : hm_acyc tm c) (hf : f < c) (gf : hm_gone tm f = 0) (ef : hm_par tm f = -1) (df : hm_dim tm f = nI d) (hv : ∀ k, hb v k = true ↔ (k < c ∧ hnF L k f ∧ ¬ hm_gone tm k ≠ 0 ∧ hm_par tm k = -1)) (hK : 1000 ≤ K) (hQ : Q (hrD tm c d f) tx) : wqX11_roomAbove K tx (nI f) v Q := by
  have hc := hL.1
  have loop : ∀ (e i K : Nat) (li : Nat → Int32) (lj : Nat → Int64), f < i → i + e = c → 2 * e + 400 ≤ K → li 1 = nI f → li 4 = hm_cnt (hrC tm c d f) i → li 5 = nI i → lj 2 = v → wpX11_roomAbove K 1 tx li lj Q := by
    intro e
    induction e with
    | zero =>
      intro i K li lj fi hi hK e1 e4 e5 e2
      obtain ⟨K, rfl⟩ : ∃ K', K = K' + 1 := ⟨K - 1, by omega⟩
      have hi : i + 0 = c := hi
      obtain rfl : i = c := by omega
      show wbX11_roomAbove_1 (wpX11_roomAbove K) K tx li lj Q
      refine ⟨fun _ => by rw [e4]; exact hQ, fun x => absurd ?_ x⟩
      rw [hE.1, e5]; exact nI_le (by omega) (by omega)
    | succ e ih =>
      intro i K li lj fi hi hK e1 e4 e5 e2
      obtain ⟨K, rfl⟩ : ∃ K', K = K' + 2 := ⟨K - 2, by omega⟩
      have ic : i < c := by omega
      have nx : ∀ li' : Nat → Int32, li' 1 = nI f → li' 4 = hm_cnt (hrC tm c d f) (i + 1) → li' 5 = nI i → wpX11_roomAbove (K + 1) 2 tx li' lj Q := by
        intro li' a1 a4 a5
        show wbX11_roomAbove_2 (wpX11_roomAbove K) K tx li' lj Q
        intro v8 e8
        exact ih (i + 1) K _ lj (by omega) (by omega) (by omega) a1 a4 (by show v8 = _; rw [e8, a5]; exact hs_inc i) e2
      have no : ¬ hrB tm c d f i → wpX11_roomAbove (K + 1) 2 tx li lj Q := fun z => nx li e1 (by rw [e4, hr_s, show hrC tm c d f i = 0 from hm_ind0 z]; exact (Int32.add_zero _).symm) e5
      have fT := hmx_faceT hM hL hf ic gf
      show wbX11_roomAbove_1 (wpX11_roomAbove (K + 1)) (K + 1) tx li lj Q
      unfold wbX11_roomAbove_1
      rw [e1, e2, e5]
      refine ⟨fun x => absurd (show tx.1 4 ≤ nI i from x) (by rw [hE.1]; exact nI_ge (by omega) (by omega)), fun _ => ?_⟩
      refine hw_isIn (by omega) (by omega) (fun y => ⟨fun z => absurd z (by decide), fun _ => ?_⟩) (fun y => ⟨fun _ => no (fun w => absurd ((hv i).mpr ⟨ic, (fT.mp w.2.1).1, (fT.mp w.2.1).2, w.2.2.2.1⟩) (by rw [y]; decide)), fun z => absurd rfl z⟩)
      obtain ⟨_, nf, gs, es⟩ := (hv i).mp y
      refine hst_acyc hE hP hM hL hMt hA hf ic fi ef es (by omega) (fun a => ⟨fun z => absurd z (by decide), fun _ v7 e7 => ?_⟩) (fun a => ⟨fun _ => no (fun w => a w.2.2.2.2), fun z => absurd rfl z⟩)
      refine nx _ e1 ?_ e5
      show v7 = _
      rw [e7, e4, hr_s, show hrC tm c d f i = 1 from hm_ind1 ⟨df, fT.mpr ⟨nf, gs⟩, ef, es, a⟩]
      rfl
  obtain ⟨K, rfl⟩ : ∃ K', K = K' + 1 := ⟨K - 1, by omega⟩
  show wbX11_roomAbove_0 (wpX11_roomAbove K) K tx (uI (fun _ => 0) 1 (nI f)) (uI (fun _ => 0) 2 v) Q
  intro v1 e1
  refine loop (c - (f + 1)) (f + 1) K _ _ (by omega) (by omega) (by omega) rfl ?_ (by show v1 = _; rw [e1]; exact nI_1 f) rfl
  exact (hq_cnt0 (f + 1) (fun k hk => hm_ind0 (fun w => absurd ((hf_face hM hL hf (by omega)).mp w.2.1.2.2).1 (by omega)))).symm
/-- the class's loop over what is CRITICAL -/
theorem hpx_room_go {tx tm : XT} {L : Nat → Int32} {c d : Nat} {v : Int64} {Q : Int32 → XT → Prop} (hE : hcE tx L c) (hP : hPJ tx tm c) (hM : hmE tm L c) (hL : hnL L c) (hMt : hm_match tm c) (hA : hm_acyc tm c) (hd : d < 5) (hv : ∀ k, hb v k = true ↔ (k < c ∧ ¬ hm_gone tm k ≠ 0 ∧ hm_par tm k = -1)) (hQ : Q (hm_cnt (hrD tm c d) c) tx) :
    ∀ (e i K : Nat) (li : Nat → Int32) (lj : Nat → Int64), i + e = c → 2 * e + 1100 ≤ K → li 1 = nI d → li 2 = hm_cnt (hrD tm c d) i → li 5 = nI i → lj 3 = v → wpX11_room K 1 tx li lj Q := by
  have hc := hL.1
  intro e
  induction e with
  | zero =>
    intro i K li lj hi hK e1 e2 e5 e3
    obtain ⟨K, rfl⟩ : ∃ K', K = K' + 1 := ⟨K - 1, by omega⟩
    have hi : i + 0 = c := hi
    obtain rfl : i = c := by omega
    show wbX11_room_1 (wpX11_room K) K tx li lj Q
    refine ⟨fun _ => by rw [e2]; exact hQ, fun x => absurd ?_ x⟩
    rw [hE.1, e5]; exact nI_le (by omega) (by omega)
  | succ e ih =>
    intro i K li lj hi hK e1 e2 e5 e3
    obtain ⟨K, rfl⟩ : ∃ K', K = K' + 2 := ⟨K - 2, by omega⟩
    have ic : i < c := by omega
    have nx : ∀ li' : Nat → Int32, li' 1 = nI d → li' 2 = hm_cnt (hrD tm c d) (i + 1) → li' 5 = nI i → wpX11_room (K + 1) 2 tx li' lj Q := by
      intro li' a1 a2 a5
      show wbX11_room_2 (wpX11_room K) K tx li' lj Q
      intro v13 e13
      exact ih (i + 1) K _ lj (by omega) (by omega) a1 a2 (by show v13 = _; rw [e13, a5]; exact hs_inc i) e3
    have no : (∀ s, s < c → ¬ hrB tm c d i s) → wpX11_room (K + 1) 2 tx li lj Q := fun z => nx li e1 (by rw [e2, hr_s, show hrD tm c d i = 0 from hq_cnt0 c (fun s hs => hm_ind0 (z s hs))]; exact (Int32.add_zero _).symm) e5
    show wbX11_room_1 (wpX11_room (K + 1)) (K + 1) tx li lj Q
    unfold wbX11_room_1
    rw [e1, e3, e5]
    refine ⟨fun x => absurd (show tx.1 4 ≤ nI i from x) (by rw [hE.1]; exact nI_ge (by omega) (by omega)), fun _ => ?_⟩
    refine hw_isIn (by omega) (by omega) (fun y => ⟨fun z => absurd z (by decide), fun _ => ?_⟩) (fun y => ⟨fun _ => no (fun s hs w => absurd ((hv i).mpr ⟨ic, fun z => z w.2.1.1, w.2.2.1⟩) (by rw [y]; decide)), fun z => absurd rfl z⟩)
    obtain ⟨_, gf, ef⟩ := (hv i).mp y
    have gf : hm_gone tm i = 0 := Classical.byContradiction gf
    have ci : (nI i).toNatClampNeg = i := nI_clamp (by omega)
    refine ⟨vp_in_nI (n := i) (by omega) (by decide), fun v7 e7 => ?_⟩
    have e7 : v7 = hm_dim tm i := e7.trans ((congrArg (tx.2.2.1 3) ci).trans (hw_dims hE hM ic))
    refine ⟨fun nd => no (fun s hs w => nd (e7.trans w.1)), fun ed => ⟨vp_in_nI (n := i) (by omega) (by decide), fun v9 e9 v10 e10 => ?_⟩⟩
    have df : hm_dim tm i = nI d := e7.symm.trans ed
    have e9 : v9 = tx.2.2.2 1 i := e9.trans (congrArg (tx.2.2.2 1) ci)
    refine hpx_roomAbove (d := d) hE hP hM hL hMt hA ic gf ef df (fun k => ?_) (by omega) (fun v12 e12 => ?_)
    · rw [e10, e9, hb_and, Bool.and_eq_true, hE.2.2.2.2.2.1 i k, hv k]
      exact ⟨fun w => ⟨w.1.1, w.1.2, w.2.2.1, w.2.2.2⟩, fun w => ⟨⟨w.1, w.2.1⟩, w.1, w.2.2.1, w.2.2.2⟩⟩
    · refine nx _ e1 ?_ e5
      show v12 = _
      rw [e12, e2]; rfl
/-- the reference's inner loop: PAIRS changed and put back -/
theorem hmx_room_in {tm : XT} {L : Nat → Int32} {c d f M : Nat} {X : Int32} {lj : Nat → Int64} {Q : Int32 → XT → Prop} (hM : hmE tm L c) (hL : hnL L c) (hMt : hm_match tm c) (hd : d < 5) (hf : f < c) (hMK : 40000 ≤ M)
    (cont : ∀ (K' : Nat) (F li' : Nat → Int32), M ≤ K' → li' 1 = nI d → li' 2 = X + hrD tm c d f → li' 3 = nI (f + 1) → wpX12_room K' 1 (sA tm 7 F) li' lj Q) :
    ∀ (e j K : Nat) (F li : Nat → Int32), j + e = c → 2 * e + M + 1 ≤ K → li 1 = nI d → li 2 = X + hm_cnt (hrC tm c d f) j → li 3 = nI f → li 4 = nI j → wpX12_room K 2 (sA tm 7 F) li lj Q := by
  have hc := hL.1
  intro e
  induction e with
  | zero =>
    intro j K F li hj hK e1 e2 e3 e4
    obtain ⟨K, rfl⟩ : ∃ K', K = K' + 1 := ⟨K - 1, by omega⟩
    have hj : j + 0 = c := hj
    obtain rfl : j = c := by omega
    show wbX12_room_2 (wpX12_room K) K (sA tm 7 F) li lj Q
    refine ⟨fun _ v5 e5 => cont K F _ (by omega) e1 e2 (by show v5 = _; rw [e5, e3]; exact hs_inc f), fun x => absurd ?_ x⟩
    show tm.1 3 ≤ li 4
    rw [hM.1, e4]; exact nI_le (by omega) (by omega)
  | succ e ih =>
    intro j K F li hj hK e1 e2 e3 e4
    obtain ⟨K, rfl⟩ : ∃ K', K = K' + 2 := ⟨K - 2, by omega⟩
    have jc : j < c := by omega
    have nx : ∀ (F' li' : Nat → Int32), li' 1 = nI d → li' 2 = X + hm_cnt (hrC tm c d f) (j + 1) → li' 3 = nI f → li' 4 = nI j → wpX12_room (K + 1) 3 (sA tm 7 F') li' lj Q := by
      intro F' li' a1 a2 a3 a4
      show wbX12_room_3 (wpX12_room K) K (sA tm 7 F') li' lj Q
      intro v16 e16
      exact ih (j + 1) K F' _ (by omega) (by omega) a1 a2 a3 (by show v16 = _; rw [e16, a4]; exact hs_inc j)
    have no : ¬ hrB tm c d f j → ∀ F', wpX12_room (K + 1) 3 (sA tm 7 F') li lj Q := fun z F' => nx F' li e1 (by rw [e2, hr_s, show hrC tm c d f j = 0 from hm_ind0 z, Int32.add_zero]) e3 e4
    show wbX12_room_2 (wpX12_room (K + 1)) (K + 1) (sA tm 7 F) li lj Q
    unfold wbX12_room_2
    rw [e1, e3, e4]
    refine ⟨fun x => absurd (show tm.1 3 ≤ nI j from x) (by rw [hM.1]; exact nI_ge (by omega) (by omega)), fun _ => ?_⟩
    refine hm_dimOf (t := sA tm 7 F) (k := f) (by omega) (by omega) ⟨fun nd => no (fun w => nd w.1) F, fun ed => ?_⟩
    have df : hm_dim tm f = nI d := ed
    refine hm_isFaceThere (t := sA tm 7 F) (f := f) (s := j) (by omega) (by omega) (by omega) (fun fT => ⟨fun z => absurd z (by decide), fun _ => ?_⟩) (fun nf => ⟨fun _ => no (fun w => nf w.2.1) F, fun z => absurd rfl z⟩)
    have fT : hm_faceT tm f j := fT
    have fj : f < j := ((hf_face hM hL hf jc).mp fT.2.2).1
    refine hq_isFree (t := sA tm 7 F) (by omega) (by omega) (by omega) (fun ef es => ⟨fun z => absurd z (by decide), fun _ => ?_⟩) (fun nf => ⟨fun _ => no (fun w => nf ⟨w.2.2.1, w.2.2.2.1⟩) F, fun z => absurd rfl z⟩)
    have ef : hm_par tm f = -1 := ef
    have es : hm_par tm j = -1 := es
    refine hmy_couples (t := sA tm 7 F) hM.1 hc hf jc fj fT.2.2 hMt ef es (by omega) (fun a F' => ⟨fun z => absurd z (by decide), fun _ => ?_⟩) (fun a F' => ⟨fun _ => ?_, fun z => absurd rfl z⟩)
    · have M2 := hq_match_two hc hf jc fj fT.2.2 hMt ef es
      refine hq_frees (t := sA (sA (sA tm 7 F) 4 (hq_two (tm.2.2.1 4) f j)) 7 F') (m := c) hc hf M2 (by omega) ?_
      have p1 : hq_free (hq_two (tm.2.2.1 4) f j) f = tm.2.2.1 4 := by
        have e : hq_two (tm.2.2.1 4) f j f = nI j := by
          show (if f = j then nI f else if f = f then nI j else tm.2.2.1 4 f) = nI j
          rw [if_neg (by omega), if_pos rfl]
        unfold hq_free
        rw [if_neg (show ¬ hq_two (tm.2.2.1 4) f j f = -1 by rw [e]; exact hs_nI_neg (by omega)), e, nI_clamp (by omega)]
        funext k
        show (if k = f then (-1 : Int32) else if k = j then -1 else if k = j then nI f else if k = f then nI j else tm.2.2.1 4 k) = tm.2.2.1 4 k
        by_cases x : k = f
        · rw [if_pos x, x]; exact ef.symm
        · rw [if_neg x]
          by_cases y : k = j
          · rw [if_pos y, y]; exact es.symm
          · rw [if_neg y, if_neg y, if_neg x]
      have st : sA (sA (sA (sA tm 7 F) 4 (hq_two (tm.2.2.1 4) f j)) 7 F') 4 (hq_free ((sA (sA (sA tm 7 F) 4 (hq_two (tm.2.2.1 4) f j)) 7 F').2.2.1 4) f) = sA tm 7 F' := by
        show sA (sA (sA (sA tm 7 F) 4 (hq_two (tm.2.2.1 4) f j)) 7 F') 4 (hq_free (hq_two (tm.2.2.1 4) f j) f) = _
        rw [p1, hq_com (sA tm 7 F)]
        show sA (sA (sA tm 7 F) 4 ((sA tm 7 F).2.2.1 4)) 7 F' = _
        rw [hm_sA0, hm_sAA]
      intro v15 e15
      rw [st]
      refine nx F' _ e1 ?_ e3 e4
      show v15 = _
      rw [e15, e2, hr_s, show hrC tm c d f j = 1 from hm_ind1 ⟨df, fT, ef, es, a⟩, ← Int32.add_assoc]
      rfl
    · rw [hm_sAA]
      exact no (fun w => a w.2.2.2.2) F'
theorem hmx_room_go {tm : XT} {L : Nat → Int32} {c d : Nat} {lj : Nat → Int64} {Q : Int32 → XT → Prop} (hM : hmE tm L c) (hL : hnL L c) (hMt : hm_match tm c) (hd : d < 5) (hQ : ∀ F, Q (hm_cnt (hrD tm c d) c) (sA tm 7 F)) :
    ∀ (e i K : Nat) (F li : Nat → Int32), i + e = c → 200 * e + 41000 ≤ K → li 1 = nI d → li 2 = hm_cnt (hrD tm c d) i → li 3 = nI i → wpX12_room K 1 (sA tm 7 F) li lj Q := by
  have hc := hL.1
  intro e
  induction e with
  | zero =>
    intro i K F li hi hK e1 e2 e3
    obtain ⟨K, rfl⟩ : ∃ K', K = K' + 1 := ⟨K - 1, by omega⟩
    have hi : i + 0 = c := hi
    obtain rfl : i = c := by omega
    show wbX12_room_1 (wpX12_room K) K (sA tm 7 F) li lj Q
    refine ⟨fun _ => by rw [e2]; exact hQ F, fun x => absurd ?_ x⟩
    show tm.1 3 ≤ li 3
    rw [hM.1, e3]; exact nI_le (by omega) (by omega)
  | succ e ih =>
    intro i K F li hi hK e1 e2 e3
    obtain ⟨K, rfl⟩ : ∃ K', K = K' + 1 := ⟨K - 1, by omega⟩
    show wbX12_room_1 (wpX12_room K) K (sA tm 7 F) li lj Q
    unfold wbX12_room_1
    refine ⟨fun x => absurd (show tm.1 3 ≤ li 3 from x) (by rw [hM.1, e3]; exact nI_ge (by omega) (by omega)), fun _ => ?_⟩
    obtain ⟨M, hM0⟩ : ∃ M, M = 200 * e + 41000 := ⟨_, rfl⟩
    refine hmx_room_in (X := hm_cnt (hrD tm c d) i) (M := M) hM hL hMt hd (f := i) (by omega) (by omega) (fun K' F' li' k1 a1 a2 a3 => ih (i + 1) K' F' li' (by omega) (by omega) a1 a2 a3) c 0 K F _ (by omega) (by omega) e1 ?_ e3 rfl
    show li 2 = hm_cnt (hrD tm c d) i + 0
    rw [e2, Int32.add_zero]
theorem hmx_room0 {K : Nat} {t : XT} {a : Int32} {Q : Int32 → XT → Prop} (h : wbX12_room_0 (wpX12_room K) K t (uI (fun _ => 0) 1 a) (fun _ => 0) Q) : wqX12_room (K + 1) t a Q := h
theorem hpx_room0 {K : Nat} {t : XT} {a : Int32} {Q : Int32 → XT → Prop} (h : wbX11_room_0 (wpX11_room K) K t (uI (fun _ => 0) 1 a) (fun _ => 0) Q) : wqX11_room (K + 1) t a Q := h
theorem hmx_room7 {K : Nat} {u : XT} {li : Nat → Int32} {lj : Nat → Int64} {Q : Int32 → XT → Prop} (h : wpX12_room K 1 (sA u 7 (u.2.2.1 7)) li lj Q) : wpX12_room K 1 u li lj Q := by
  rw [hm_sA0] at h
  exact h
theorem hac_room (n : Nat) (tx tm : XT) (p1 : Int32) (hJ : hAl (n + 1) tx tm) : ∃ k, wqX11_room k tx p1 (fun r1 tx' => ∃ k', wqX12_room k' tm p1 (fun r2 tm' => r1 = r2 ∧ hAl n tx' tm')) := by
  obtain ⟨hJ, c, L, hL, hE, hM, hP, hH, hK⟩ := hJ
  have hc := hL.1
  obtain ⟨n', hI⟩ := hal_inv hJ hM hc
  have hMt := hI.2.2.2.1
  have hA := hI.2.2.2.2.1
  obtain ⟨KA, hKA⟩ : ∃ KA, KA = 100000 := ⟨_, rfl⟩
  refine hfi_room (A := KA + 1) (B := KA + 1) hJ hL hE hM ?_
  refine hpx_room0 (hpx_isDim (a := p1) (by omega) (fun d hd e => ⟨fun _ => ?_, fun z => absurd z (by decide)⟩) (fun no => ⟨fun z => absurd rfl z, fun _ => ?_⟩))
  · have e : p1 = nI d := e
    subst e
    refine hpx_unpaired hP hc (by omega) (fun v hv => ?_)
    refine hpx_room_go hE hP hM hL hMt hA hd hv ?_ c 0 KA _ _ (by omega) (by omega) rfl rfl rfl rfl
    refine hmx_room0 (hmx_in (n := 4) (a := nI d) (by omega) (by omega) (fun _ _ _ => ⟨fun _ => ?_, fun z => absurd z (by decide)⟩) (fun no => absurd rfl (no d (by omega))))
    refine hmx_room7 ?_
    exact hmx_room_go hM hL hMt hd (fun F => ⟨rfl, hP, hH, hK⟩) c 0 KA _ _ (by omega) (by omega) rfl rfl rfl
  · refine hmx_room0 (hmx_in (n := 4) (a := p1) (by omega) (by omega) (fun d hd e => absurd e (no d (by omega))) (fun _ => ⟨fun z => absurd rfl z, fun _ => ⟨rfl, hP, hH, hK⟩⟩))
