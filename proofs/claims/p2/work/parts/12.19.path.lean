/-! ===== reference, pure: rows, laysPath, path: the row that is laid is a PATH ===== -/
def hq_r (t : XT) (R : Nat → Int32) (c : Nat) : XT := sI (sA t 10 R) 5 (nI c)
theorem hq_r_put (t : XT) (R R' : Nat → Int32) (v w : Int32) : sI (sA (sI (sA t 10 R) 5 v) 10 R') 5 w = sI (sA t 10 R') 5 w := by
  unfold sI sA uI
  refine Prod.ext ?_ (Prod.ext rfl (Prod.ext ?_ rfl))
  · funext j
    show cond (Nat.beq j 5) w (cond (Nat.beq j 5) v (t.1 j)) = cond (Nat.beq j 5) w (t.1 j)
    cases Nat.beq j 5 <;> rfl
  · funext j
    show cond (Nat.beq j 10) R' (cond (Nat.beq j 10) R (t.2.2.1 j)) = cond (Nat.beq j 10) R' (t.2.2.1 j)
    cases Nat.beq j 10 <;> rfl
theorem hq_rows {t : XT} {R : Nat → Int32} {c K : Nat} {x : Int32} {Q : XT → Prop} (hc : c < 122) (hK : 1 ≤ K) (h : Q (hq_r t (upd R c x) (c + 1))) : wqX12_rows K (hq_r t R c) x Q := by
  obtain ⟨K, rfl⟩ : ∃ K', K = K' + 1 := ⟨K - 1, by omega⟩
  have cc : (nI c).toNatClampNeg = c := nI_clamp (by omega)
  show wbX12_rows_0 (wpX12_rows K) K (hq_r t R c) (uI (fun _ => 0) 1 x) (fun _ => 0) Q
  refine ⟨vp_in_nI hc (by decide), fun t1 e1 v2 e2 t3 e3 => ?_⟩
  have e2 : v2 = nI (c + 1) := by
    rw [e2, e1]; exact nI_1 c
  have e3 : t3 = hq_r t (upd R c x) (c + 1) := by
    rw [e3, e2, e1]
    show sI (sA (sI (sA t 10 R) 5 (nI c)) 10 (upd R (nI c).toNatClampNeg x)) 5 (nI (c + 1)) = _
    rw [hq_r_put, cc]; rfl
  rw [e3]; exact h
theorem hq_lN_lt {a b : Nat} (ha : a < 2 ^ 63) (hb : b < 2 ^ 63) : lN a < lN b ↔ a < b := by
  rw [Int64.lt_iff_toInt_lt, pk_lT ha, pk_lT hb]
  omega
theorem hq_lN_sub {a b : Nat} (h : b ≤ a) : lN a - lN b = lN (a - b) := by
  have e : lN (a - b) + lN b = lN a := by rw [lN_add]; rw [Nat.sub_add_cancel h]
  rw [← e]
  exact Int64.add_sub_cancel _ _
/-- what happens where the face is found -/
def hq_takeP (K : Nat) (t : XT) (li : Nat → Int32) (lj : Nat → Int64) (Q : Int32 → XT → Prop) : Prop :=
  (wqX12_rows K t (li 9) (fun t_13 => (((li 9) = (li 2)) → wpX12_laysPath K 6 t_13 (uI li 6 (li 9)) lj Q) ∧ (¬ ((li 9) = (li 2)) → (vp_in (li 9) 60 ∧ (∀ v_15 : Int32, v_15 = (t_13.2.2.1 4) (li 9).toNatClampNeg → (wqX12_rows K t_13 v_15 (fun t_16 => wpX12_laysPath K 6 t_16 (uI (uI li 5 v_15) 6 (li 9)) lj Q)))))))
theorem hq_lp_scan {t : XT} {m e a bb l c L : Nat} {b6 : Int32} {W : Nat → Int64} {A : Nat → Nat} {R : Nat → Int32} {Q : Int32 → XT → Prop} (hm60 : m ≤ 60) (ha : a < m) (hb : (bb = 60 ∧ b6 = -1) ∨ (bb < m ∧ b6 = nI bb))
    (hW0 : t.2.2.2 0 = W) (hW : ∀ k, k < m → W k = lN (A k)) (hS : hm_sum A m ≤ 2 ^ 60) (hl : l < hq_tot t m bb a A) (hL : 20 ≤ L)
    (take : ∀ (K' f l' : Nat) (li' : Nat → Int32) (lj' : Nat → Int64), L ≤ K' → f < m → f ≠ bb → hm_faceT t f a → l' < A f → li' 2 = nI e → li' 9 = nI f → lj' 7 = lN l' → hq_takeP K' (hq_r t R c) li' lj' Q) :
    ∀ (d f K l' : Nat) (li : Nat → Int32) (lj : Nat → Int64), f + d = m → 5 * d + L + 1 ≤ K → l = l' + hq_tot t f bb a A → li 2 = nI e → li 5 = nI a → li 6 = b6 → li 9 = nI f → lj 7 = lN l' → wpX12_laysPath K 2 (hq_r t R c) li lj Q := by
  intro d
  induction d with
  | zero =>
    intro f K l' li lj hd hK el e2 e5 e6 e9 e7
    obtain rfl : f = m := by omega
    omega
  | succ d ih =>
    intro f K l' li lj hd hK el e2 e5 e6 e9 e7
    obtain ⟨K, rfl⟩ : ∃ K', K = K' + 5 := ⟨K - 5, by omega⟩
    have cf : (nI f).toNatClampNeg = f := nI_clamp (by omega)
    have tl : hq_tot t m bb a A ≤ hm_sum A m := hq_tot_le
    have p62 : (2 : Nat) ^ 60 < 2 ^ 63 := by decide
    have Af : A f ≤ hm_sum A m := Nat.le_trans (Nat.le_add_left _ _) (hq_sum_at (A := A) (g := f) m (by omega))
    have sg : hq_tot t (f + 1) bb a A = hq_tot t f bb a A + hq_sel (f ≠ bb ∧ hm_faceT t f a) (A f) := rfl
    have five : ∀ (K2 x : Nat) (li' : Nat → Int32) (lj' : Nat → Int64), K + 1 ≤ K2 → x ≤ l' → x = hq_sel (f ≠ bb ∧ hm_faceT t f a) (A f) → li' 2 = nI e → li' 5 = nI a → li' 6 = b6 → li' 9 = nI f → lj' 100 = lN l' → lj' 101 = lN x → wpX12_laysPath K2 5 (hq_r t R c) li' lj' Q := by
      intro K2 x li' lj' h1 h2 h3 a2 a5 a6 a9 a100 a101
      obtain ⟨K2, rfl⟩ : ∃ K', K2 = K' + 1 := ⟨K2 - 1, by omega⟩
      show wbX12_laysPath_5 (wpX12_laysPath K2) K2 (hq_r t R c) li' lj' Q
      intro v21 e21 v22 e22
      refine ih (f + 1) K2 (l' - x) _ _ (by omega) (by omega) ?_ a2 a5 a6 (by show v22 = _; rw [e22, a9]; exact hs_inc f) ?_
      · rw [sg, ← h3]; omega
      · show v21 = _
        rw [e21, a100, a101]; exact hq_lN_sub h2
    have four : ¬ (f ≠ bb ∧ hm_faceT t f a) → wpX12_laysPath (K + 3) 4 (hq_r t R c) li (uI lj 100 (lj 7)) Q := by
      intro z
      show wbX12_laysPath_4 (wpX12_laysPath (K + 2)) (K + 2) (hq_r t R c) li (uI lj 100 (lj 7)) Q
      exact five (K + 2) 0 _ _ (by omega) (Nat.zero_le _) (hq_sel0 z).symm e2 e5 e6 e9 e7 rfl
    have beq : li 9 = li 6 ↔ f = bb := by
      rw [e9, e6]
      rcases hb with ⟨x, y⟩ | ⟨x, y⟩
      · rw [y]
        exact ⟨fun q => absurd q (hs_nI_neg (by omega)), fun q => absurd q (by omega)⟩
      · rw [y]
        exact nI_eq (by omega) (by omega)
    have three : ¬ ((f ≠ bb ∧ hm_faceT t f a) ∧ l' < A f) → wpX12_laysPath (K + 4) 3 (hq_r t R c) li lj Q := by
      intro z
      show wbX12_laysPath_3 (wpX12_laysPath (K + 3)) (K + 3) (hq_r t R c) li lj Q
      refine ⟨fun q => four (fun y => y.1 (beq.mp q)), fun q => ?_⟩
      have nb : f ≠ bb := fun y => q (beq.mpr y)
      rw [e9, e5]
      refine hm_isFaceThere (t := hq_r t R c) (by omega) (by omega) (by omega) (fun fc => ⟨fun x => absurd x (by decide), fun _ => ⟨vp_in_nI (by omega) (by decide), fun v20 e20 => ?_⟩⟩) (fun nf => ⟨fun _ => four (fun y => nf y.2), fun x => absurd rfl x⟩)
      have e20 : v20 = lN (A f) := by
        rw [e20, cf]
        show t.2.2.2 0 f = _
        rw [hW0]; exact hW f (by omega)
      have le : A f ≤ l' := by
        refine Nat.le_of_not_lt (fun y => z ⟨⟨nb, fc⟩, y⟩)
      exact five (K + 3) (A f) _ _ (by omega) le (hq_sel1 ⟨nb, fc⟩).symm e2 e5 e6 e9 e7 e20
    show wbX12_laysPath_2 (wpX12_laysPath (K + 4)) (K + 4) (hq_r t R c) li lj Q
    refine ⟨fun q => three (fun y => y.1.1 (beq.mp q)), fun q => ?_⟩
    have nb : f ≠ bb := fun y => q (beq.mpr y)
    have e9' := e9
    rw [e9, e5]
    refine hm_isFaceThere (t := hq_r t R c) (by omega) (by omega) (by omega) (fun fc => ⟨fun x => absurd x (by decide), fun _ => ⟨vp_in_nI (by omega) (by decide), fun v10 e10 v11 e11 => ?_⟩⟩) (fun nf => ⟨fun _ => three (fun y => nf y.1.2), fun x => absurd rfl x⟩)
    have e10 : v10 = lN (A f) := by
      rw [e10, cf]
      show t.2.2.2 0 f = _
      rw [hW0]; exact hW f (by omega)
    have cmp : 0 < v11 ↔ l' < A f := by
      rw [e11, e10, e7, lg_cmp_gt]
      exact hq_lN_lt (by omega) (by omega)
    refine ⟨fun y => ?_, fun y => three (fun z => y (cmp.mpr z.2))⟩
    have g := take (K + 4) f l' li lj (by omega) (by omega) nb fc (cmp.mp y) e2 e9' e7
    unfold hq_takeP at g
    rw [e9'] at g
    exact g
def hq_pp (t : XT) (m s : Nat) (R : Nat → Int32) (k : Nat) (F P : Nat → Nat) : Prop :=
  P 0 = s ∧ (∀ i, i ≤ k → P i < m ∧ R (2 * i) = nI (P i)) ∧ (∀ i, i < k → F i < m ∧ R (2 * i + 1) = nI (F i) ∧ hm_low t (F i) ∧ hm_par t (F i) = nI (P (i + 1)) ∧ hm_faceT t (F i) (P i)) ∧ (∀ j i, j < i → i < k → F j ≠ F i)
def hq_pth (t : XT) (m s e : Nat) (R : Nat → Int32) (k : Nat) : Prop := ∃ F P, hq_pp t m s R k F P ∧ F k = e ∧ R (2 * k + 1) = nI e ∧ hm_faceT t e (P k)
theorem hq_lp_loop {t : XT} {m s e : Nat} {W : Nat → Int64} {A δ : Nat → Nat} {Q : Int32 → XT → Prop} (hm60 : m ≤ 60) (hM : hm_match t m) (he : e < m) (ce : hm_par t e = -1)
    (hW0 : t.2.2.2 0 = W) (hF : hq_full t m e W A) (d2 : ∀ f g, f < m → g < m → hm_low t f → hm_low t g → g ≠ f → hm_on t f g → δ g < δ f)
    (hQ : ∀ R k, 2 * k + 2 ≤ 122 → hq_pth t m s e R k → Q 1 (hq_r t R (2 * k + 2))) :
    ∀ (u k K l bb : Nat) (R : Nat → Int32) (F P : Nat → Nat) (li : Nat → Int32) (lj : Nat → Int64), 400 * u + 400 ≤ K → 2 * k + 1 + 2 * u ≤ 121 → hq_pp t m s R k F P →
      (∀ f, f < m → f ≠ bb → hm_faceT t f (P k) → hm_low t f → δ f < u ∧ ∀ j, j < k → δ f < δ (F j)) → ((bb = 60 ∧ li 6 = -1) ∨ (bb < m ∧ li 6 = nI bb ∧ hm_low t bb)) →
      l < hq_tot t m bb (P k) A → li 2 = nI e → li 5 = nI (P k) → lj 7 = lN l → wpX12_laysPath K 1 (hq_r t R (2 * k + 1)) li lj Q := by
  intro u
  induction u with
  | zero =>
    intro k K l bb R F P li lj hK hc hp hst hb hl e2 e5 e7
    obtain ⟨K, rfl⟩ : ∃ K', K = K' + 1 := ⟨K - 1, by omega⟩
    have hPk := (hp.2.1 k (Nat.le_refl _)).1
    show wbX12_laysPath_1 (wpX12_laysPath K) K (hq_r t R (2 * k + 1)) li lj Q
    have nb : ¬ li 6 = li 2 := by
      rw [e2]
      rcases hb with ⟨_, y⟩ | ⟨x, y, lo⟩
      · rw [y]; exact fun q => hs_nI_neg (n := e) (by omega) q.symm
      · rw [y]
        intro q
        rw [(nI_eq (by omega) (by omega)).mp q] at lo
        exact lo.1 ce
    refine ⟨fun q => absurd q nb, fun _ => ?_⟩
    refine hq_lp_scan (t := t) (e := e) (a := P k) (bb := bb) (L := 20) (b6 := li 6) hm60 hPk (hb.elim Or.inl (fun z => Or.inr ⟨z.1, z.2.1⟩)) hW0 hF.1 hF.2.1 hl (by omega) (fun K' f l' li' lj' h1 hf nbf fc lt a2 a9 a7 => ?_) m 0 K l _ _ (by omega) (by omega) rfl e2 e5 rfl rfl e7
    unfold hq_takeP
    rw [a9, a2]
    refine hq_rows (by omega) (by omega) ⟨fun q => ?_, fun q => ?_⟩
    · obtain rfl := (nI_eq (by omega) (by omega)).mp q
      obtain ⟨K', rfl⟩ : ∃ K'', K' = K'' + 2 := ⟨K' - 2, by omega⟩
      show wbX12_laysPath_1 (wpX12_laysPath K') K' _ _ lj' Q
      refine ⟨fun _ => hQ _ k (by omega) ⟨fun i => if i = k then f else F i, P, ⟨hp.1, fun i hi => ⟨(hp.2.1 i hi).1, (if_neg (by omega)).trans (hp.2.1 i hi).2⟩, fun i hi => ?_, fun j i hj hi => ?_⟩, if_pos rfl, if_pos rfl, fc⟩, fun z => absurd a2.symm z⟩
      · show (if i = k then f else F i) < m ∧ upd R (2 * k + 1) (nI f) (2 * i + 1) = nI (if i = k then f else F i) ∧ hm_low t (if i = k then f else F i) ∧ hm_par t (if i = k then f else F i) = nI (P (i + 1)) ∧ hm_faceT t (if i = k then f else F i) (P i)
        rw [if_neg (show ¬ i = k by omega)]
        obtain ⟨b1, b2, b3⟩ := hp.2.2.1 i hi
        exact ⟨b1, (if_neg (by omega)).trans b2, b3⟩
      · show (if j = k then f else F j) ≠ (if i = k then f else F i)
        rw [if_neg (show ¬ i = k by omega), if_neg (show ¬ j = k by omega)]
        exact hp.2.2.2 j i hj hi
    · have ne : f ≠ e := fun z => q (congrArg nI z)
      have go : hq_goes t e f := by
        refine Classical.byContradiction (fun z => ?_)
        have w := hF.2.2.2 f hf z
        rw [if_neg ne] at w
        omega
      exact absurd (hst f hf nbf fc go.2.2.1).1 (by omega)
  | succ u ih =>
    intro k K l bb R F P li lj hK hc hp hst hb hl e2 e5 e7
    obtain ⟨K, rfl⟩ : ∃ K', K = K' + 1 := ⟨K - 1, by omega⟩
    have hPk := (hp.2.1 k (Nat.le_refl _)).1
    show wbX12_laysPath_1 (wpX12_laysPath K) K (hq_r t R (2 * k + 1)) li lj Q
    have nb : ¬ li 6 = li 2 := by
      rw [e2]
      rcases hb with ⟨_, y⟩ | ⟨x, y, lo⟩
      · rw [y]; exact fun q => hs_nI_neg (n := e) (by omega) q.symm
      · rw [y]
        intro q
        rw [(nI_eq (by omega) (by omega)).mp q] at lo
        exact lo.1 ce
    refine ⟨fun q => absurd q nb, fun _ => ?_⟩
    obtain ⟨L, hL⟩ : ∃ L, L = 400 * u + 410 := ⟨_, rfl⟩
    refine hq_lp_scan (t := t) (e := e) (a := P k) (bb := bb) (L := L) (b6 := li 6) hm60 hPk (hb.elim Or.inl (fun z => Or.inr ⟨z.1, z.2.1⟩)) hW0 hF.1 hF.2.1 hl (by omega) (fun K' f l' li' lj' h1 hf nbf fc lt a2 a9 a7 => ?_) m 0 K l _ _ (by omega) (by omega) rfl e2 e5 rfl rfl e7
    unfold hq_takeP
    rw [a9]
    refine hq_rows (by omega) (by omega) ⟨fun q => ?_, fun q => ?_⟩
    · rw [a2] at q
      obtain rfl := (nI_eq (by omega) (by omega)).mp q
      obtain ⟨K', rfl⟩ : ∃ K'', K' = K'' + 2 := ⟨K' - 2, by omega⟩
      show wbX12_laysPath_1 (wpX12_laysPath K') K' _ _ lj' Q
      refine ⟨fun _ => hQ _ k (by omega) ⟨fun i => if i = k then f else F i, P, ⟨hp.1, fun i hi => ⟨(hp.2.1 i hi).1, (if_neg (by omega)).trans (hp.2.1 i hi).2⟩, fun i hi => ?_, fun j i hj hi => ?_⟩, if_pos rfl, if_pos rfl, fc⟩, fun z => absurd a2.symm z⟩
      · show (if i = k then f else F i) < m ∧ upd R (2 * k + 1) (nI f) (2 * i + 1) = nI (if i = k then f else F i) ∧ hm_low t (if i = k then f else F i) ∧ hm_par t (if i = k then f else F i) = nI (P (i + 1)) ∧ hm_faceT t (if i = k then f else F i) (P i)
        rw [if_neg (show ¬ i = k by omega)]
        obtain ⟨b1, b2, b3⟩ := hp.2.2.1 i hi
        exact ⟨b1, (if_neg (by omega)).trans b2, b3⟩
      · show (if j = k then f else F j) ≠ (if i = k then f else F i)
        rw [if_neg (show ¬ i = k by omega), if_neg (show ¬ j = k by omega)]
        exact hp.2.2.2 j i hj hi
    · rw [a2] at q
      have ne : f ≠ e := fun z => q (congrArg nI z)
      have cf : (nI f).toNatClampNeg = f := nI_clamp (by omega)
      have go : hq_goes t e f := by
        refine Classical.byContradiction (fun z => ?_)
        have w := hF.2.2.2 f hf z
        rw [if_neg ne] at w
        omega
      have lo := go.2.2.1
      obtain ⟨p, hpm, ep⟩ := hm_match_pars hM f hf lo
      have st := hst f hf nbf fc lo
      refine ⟨vp_in_nI (by omega) (by decide), fun v15 e15 => ?_⟩
      have e15 : v15 = nI p := by
        rw [e15, cf]
        exact ep
      subst e15
      refine hq_rows (by omega) (by omega) ?_
      obtain ⟨K', rfl⟩ : ∃ K'', K' = K'' + 1 := ⟨K' - 1, by omega⟩
      show wbX12_laysPath_6 (wpX12_laysPath K') K' _ _ lj' Q
      refine ih (k + 1) K' l' f (upd (upd R (2 * k + 1) (nI f)) (2 * k + 1 + 1) (nI p)) (fun i => if i = k then f else F i) (fun i => if i = k + 1 then p else P i) _ lj' (by omega) (by omega) ⟨?_, fun i hi => ?_, fun i hi => ?_, fun j i hj hi => ?_⟩ (fun g hg ng gc gl => ?_) (Or.inr ⟨hf, rfl, lo⟩) ?_ a2 ?_ a7
      · exact (if_neg (by omega)).trans hp.1
      · by_cases x : i = k + 1
        · refine ⟨by show (if i = k + 1 then p else P i) < m; rw [if_pos x]; exact hpm, ?_⟩
          show upd (upd R (2 * k + 1) (nI f)) (2 * k + 1 + 1) (nI p) (2 * i) = nI (if i = k + 1 then p else P i)
          rw [if_pos x]; exact if_pos (by omega)
        · obtain ⟨b1, b2⟩ := hp.2.1 i (by omega)
          refine ⟨by show (if i = k + 1 then p else P i) < m; rw [if_neg x]; exact b1, ?_⟩
          show upd (upd R (2 * k + 1) (nI f)) (2 * k + 1 + 1) (nI p) (2 * i) = nI (if i = k + 1 then p else P i)
          rw [if_neg x]; exact (if_neg (by omega)).trans ((if_neg (by omega)).trans b2)
      · show (if i = k then f else F i) < m ∧ upd (upd R (2 * k + 1) (nI f)) (2 * k + 1 + 1) (nI p) (2 * i + 1) = nI (if i = k then f else F i) ∧ hm_low t (if i = k then f else F i) ∧ hm_par t (if i = k then f else F i) = nI (if i + 1 = k + 1 then p else P (i + 1)) ∧ hm_faceT t (if i = k then f else F i) (if i = k + 1 then p else P i)
        by_cases x : i = k
        · rw [if_pos x, if_pos (show i + 1 = k + 1 by omega), if_neg (show ¬ i = k + 1 by omega), x]
          exact ⟨hf, (if_neg (by omega)).trans (if_pos rfl), lo, ep, fc⟩
        · rw [if_neg x, if_neg (show ¬ i + 1 = k + 1 by omega), if_neg (show ¬ i = k + 1 by omega)]
          obtain ⟨b1, b2, b3⟩ := hp.2.2.1 i (by omega)
          exact ⟨b1, (if_neg (by omega)).trans ((if_neg (by omega)).trans b2), b3⟩
      · show (if j = k then f else F j) ≠ (if i = k then f else F i)
        rw [if_neg (show ¬ j = k by omega)]
        by_cases x : i = k
        · rw [if_pos x]
          intro z
          have w := st.2 j (by omega)
          rw [z] at w
          omega
        · rw [if_neg x]; exact hp.2.2.2 j i hj (by omega)
      · have gc : hm_faceT t g p := by
          have z : (if k + 1 = k + 1 then p else P (k + 1)) = p := if_pos rfl
          rw [← z]; exact gc
        have w := d2 f g hf hg lo gl ng ⟨p, by omega, ep, gc.2.2⟩
        refine ⟨by omega, fun j hj => ?_⟩
        show δ g < δ (if j = k then f else F j)
        by_cases x : j = k
        · rw [if_pos x]; exact w
        · rw [if_neg x]
          have := st.2 j (by omega)
          omega
      · show l' < hq_tot t m f (if k + 1 = k + 1 then p else P (k + 1)) A
        rw [if_pos rfl, ← hF.2.2.1 f p hf hpm go ep]; exact lt
      · show nI p = nI (if k + 1 = k + 1 then p else P (k + 1))
        rw [if_pos rfl]
theorem hq_laysPath {t : XT} {m s e x K : Nat} {Q : Int32 → XT → Prop} (hm : t.1 3 = nI m) (hm60 : m ≤ 60) (hM : hm_match t m) (hA : hm_acyc t m) (hs : s < m) (he : e < m) (ce : hm_par t e = -1) (hx : x < 2 ^ 62) (hK : 40000 ≤ K)
    (h1 : ∀ W G A R k, hq_full t m e W A → 2 * k + 2 ≤ 122 → hq_pth t m s e R k → Q 1 (hq_r (hq_w t W G) R (2 * k + 2))) (h0 : ∀ W G A, hq_full t m e W A → ¬ x < hq_tot t m 60 s A → Q 0 (hq_w t W G)) : wqX12_laysPath K t (nI s) (nI e) (lN x) Q := by
  obtain ⟨K, rfl⟩ : ∃ K', K = K' + 1 := ⟨K - 1, by omega⟩
  show wbX12_laysPath_0 (wpX12_laysPath K) K t (uI (uI (fun _ => 0) 1 (nI s)) 2 (nI e)) (uI (fun _ => 0) 3 (lN x)) Q
  refine hq_waysFrom2 hm hm60 hM hA hs he (by omega) (fun W G A hF v2 e2 => ?_)
  have tl : hq_tot t m 60 s A ≤ hm_sum A m := hq_tot_le
  have hS := hF.2.1
  have p62 : (2 : Nat) ^ 60 < 2 ^ 63 := by decide
  have p63 : (2 : Nat) ^ 62 < 2 ^ 63 := by decide
  have cmp : v2 < 0 ↔ x < hq_tot t m 60 s A := by
    rw [e2]
    show lg_cmp (lN x) (lN (hq_tot t m 60 s A)) < 0 ↔ _
    rw [lg_cmp_lt]
    exact hq_lN_lt (by omega) (by omega)
  refine ⟨fun y t4 e4 => ?_, fun y => h0 W G A hF (fun z => y (cmp.mpr z))⟩
  have e4 : t4 = hq_r (hq_w t W G) (t.2.2.1 10) 0 := by
    rw [e4]
    show sI (hq_w t W G) 5 0 = sI (sA (hq_w t W G) 10 ((hq_w t W G).2.2.1 10)) 5 (nI 0)
    rw [hm_sA0]; rfl
  rw [e4]
  refine hq_rows (by omega) (by omega) ?_
  obtain ⟨δ, d1, d2⟩ := hA
  refine hq_lp_loop (t := hq_w t W G) (s := s) (W := W) (A := A) (δ := δ) hm60 hM he ce rfl hF d2 (fun R k a b => h1 W G A R k hF a b) 60 0 K x 60 _ (fun _ => 0) (fun _ => s) _ _ (by omega) (by omega) ⟨rfl, fun i hi => ⟨hs, ?_⟩, fun i hi => absurd hi (by omega), fun j i hj hi => absurd hi (by omega)⟩ (fun f hf _ _ lo => ⟨d1 f hf lo, fun j hj => absurd hj (by omega)⟩) (Or.inl ⟨rfl, rfl⟩) (cmp.mp y) rfl rfl rfl
  exact if_pos (by omega)
theorem hq_pathCall {t : XT} {m n K : Nat} {a b c d : Int32} {Q : Int32 → XT → Prop} (hI : hq_inv t m n) (hK : 40001 ≤ K) (hQ : ∀ r t', hq_key t' = hq_key t → hq_inv t' m n → Q r t') : wqX12_path K t a b c d Q := by
  obtain ⟨K, rfl⟩ : ∃ K', K = K' + 1 := ⟨K - 1, by omega⟩
  have hm := hI.1
  have hm60 := hI.2.1
  have out : wpX12_path K 1 t (uI (uI (uI (uI (fun _ => 0) 1 a) 2 b) 3 c) 4 d) (fun _ => 0) Q := by
    obtain ⟨K, rfl⟩ : ∃ K', K = K' + 1 := ⟨K - 1, by omega⟩
    exact hQ _ t rfl hI
  show wbX12_path_0 (wpX12_path K) K t (uI (uI (uI (uI (fun _ => 0) 1 a) 2 b) 3 c) 4 d) (fun _ => 0) Q
  refine hq_areEnds (a := a) (b := b) hm hm60 (by omega) (fun s e hs he ea eb _ ce _ => ⟨fun x => absurd x (by decide), fun _ => ⟨fun _ => out, fun c0 => ⟨fun d0 v5 e5 => ?_, fun _ => out⟩⟩⟩) ⟨fun _ => out, fun x => absurd rfl x⟩
  subst ea
  subst eb
  have c0 : ¬ c < 0 := c0
  have hc : (0 : Int32).toInt ≤ c.toInt := Int32.le_iff_toInt_le.mp (Int32.not_lt.mp c0)
  have hc : 0 ≤ c.toInt := hc
  have hc2 := Int32.toInt_lt c
  obtain ⟨x, ex⟩ : ∃ x : Nat, x = c.toInt.toNat := ⟨_, rfl⟩
  have e5 : v5 = lN x := by
    refine Int64.toInt_inj.mp ?_
    rw [e5, pk_lT (show x < 2 ^ 63 by omega)]
    show (c.toInt64).toInt = _
    rw [Int32.toInt_toInt64]
    omega
  subst e5
  refine hq_laysPath hm hm60 hI.2.2.2.1 hI.2.2.2.2.1 hs he ce.2 (show x < 2 ^ 62 by omega) (by omega) (fun W G A R k _ hk _ => ?_) (fun W G A _ _ => ⟨fun z => absurd rfl z, fun _ => hQ _ _ rfl (hq_frame (t := t) rfl rfl rfl rfl rfl rfl hI)⟩)
  have hI2 : hq_inv (hq_r (hq_w t W G) R (2 * k + 2)) m n := hq_frame (t := t) rfl rfl rfl rfl rfl rfl hI
  refine ⟨fun _ => ⟨fun nd => ⟨fun _ => hQ _ _ rfl hI2, fun lt => ⟨?_, fun v10 _ => hQ _ _ rfl hI2⟩⟩, fun _ => hQ _ _ rfl hI2⟩, fun z => absurd z (by decide)⟩
  have d0 : (-1 : Int32) ≤ d := d0
  have nd : ¬ d = -1 := nd
  have lt : ¬ nI (2 * k + 2) ≤ d := lt
  have q1 : (-1 : Int32).toInt ≤ d.toInt := Int32.le_iff_toInt_le.mp d0
  have q1 : (-1 : Int) ≤ d.toInt := q1
  have q2 : d.toInt ≠ -1 := fun z => nd (Int32.toInt_inj.mp z)
  have q3 : d.toInt < (nI (2 * k + 2)).toInt := Int32.lt_iff_toInt_lt.mp (Int32.not_le.mp lt)
  rw [nI_toInt (by omega)] at q3
  have ed : d = nI d.toInt.toNat := by
    refine Int32.toInt_inj.mp ?_
    rw [nI_toInt (by omega)]
    omega
  show vp_in d 122
  rw [ed]
  exact vp_in_nI (by omega) (by decide)
