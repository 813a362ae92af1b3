/-! ===== the reference's laysPath, exactly; path answers alike ===== -/
theorem hmx_lp_scan {t : XT} {m e a bb l c L : Nat} {b6 : Int32} {W : Nat → Int64} {A : Nat → Nat} {R : Nat → Int32} {Q : Int32 → XT → Prop} (hm60 : m ≤ 60) (ha : a < m) (hb : (bb = 60 ∧ b6 = -1) ∨ (bb < m ∧ b6 = nI bb))
    (hW0 : t.2.2.2 0 = W) (hW : ∀ k, k < m → W k = lN (A k)) (hS : hm_sum A m ≤ 2 ^ 60) (hl : l < hq_tot t m bb a A) (hL : 20 ≤ L)
    (take : ∀ (K' f l' : Nat) (li' : Nat → Int32) (lj' : Nat → Int64), L ≤ K' → f < m → f ≠ bb → hm_faceT t f a → l' < A f → l = l' + hq_tot t f bb a A → li' 2 = nI e → li' 9 = nI f → lj' 7 = lN l' → hq_takeP K' (hq_r t R c) li' lj' Q) :
    ∀ (d f K l' : Nat) (li : Nat → Int32) (lj : Nat → Int64), f + d = m → 5 * d + L + 1 ≤ K → l = l' + hq_tot t f bb a A → li 2 = nI e → li 5 = nI a → li 6 = b6 → li 9 = nI f → lj 7 = lN l' → wpX12_laysPath K 2 (hq_r t R c) li lj Q := by
  intro d
  induction d with
  | zero =>
    intro f K l' li lj hd hK el e2 e5 e6 e9 e7
    obtain rfl : f = m := by omega
    omega
  | succ d ih =>
    intro f K l' li lj hd hK el e2 e5 e6 e9 e7
    obtain ⟨K, rfl⟩ : ∃ K', K = K' + 5 := ⟨K - 5, by omega⟩
    have cf : (nI f).toNatClampNeg = f := nI_clamp (by omega)
    have tl : hq_tot t m bb a A ≤ hm_sum A m := hq_tot_le
    have p62 : (2 : Nat) ^ 60 < 2 ^ 63 := by decide
    have Af : A f ≤ hm_sum A m := Nat.le_trans (Nat.le_add_left _ _) (hq_sum_at (A := A) (g := f) m (by omega))
    have sg : hq_tot t (f + 1) bb a A = hq_tot t f bb a A + hq_sel (f ≠ bb ∧ hm_faceT t f a) (A f) := rfl
    have five : ∀ (K2 x : Nat) (li' : Nat → Int32) (lj' : Nat → Int64), K + 1 ≤ K2 → x ≤ l' → x = hq_sel (f ≠ bb ∧ hm_faceT t f a) (A f) → li' 2 = nI e → li' 5 = nI a → li' 6 = b6 → li' 9 = nI f → lj' 100 = lN l' → lj' 101 = lN x → wpX12_laysPath K2 5 (hq_r t R c) li' lj' Q := by
      intro K2 x li' lj' h1 h2 h3 a2 a5 a6 a9 a100 a101
      obtain ⟨K2, rfl⟩ : ∃ K', K2 = K' + 1 := ⟨K2 - 1, by omega⟩
      show wbX12_laysPath_5 (wpX12_laysPath K2) K2 (hq_r t R c) li' lj' Q
      intro v21 e21 v22 e22
      refine ih (f + 1) K2 (l' - x) _ _ (by omega) (by omega) ?_ a2 a5 a6 (by show v22 = _; rw [e22, a9]; exact hs_inc f) ?_
      · rw [sg, ← h3]; omega
      · show v21 = _
        rw [e21, a100, a101]; exact hq_lN_sub h2
    have four : ¬ (f ≠ bb ∧ hm_faceT t f a) → wpX12_laysPath (K + 3) 4 (hq_r t R c) li (uI lj 100 (lj 7)) Q := by
      intro z
      show wbX12_laysPath_4 (wpX12_laysPath (K + 2)) (K + 2) (hq_r t R c) li (uI lj 100 (lj 7)) Q
      exact five (K + 2) 0 _ _ (by omega) (Nat.zero_le _) (hq_sel0 z).symm e2 e5 e6 e9 e7 rfl
    have beq : li 9 = li 6 ↔ f = bb := by
      rw [e9, e6]
      rcases hb with ⟨x, y⟩ | ⟨x, y⟩
      · rw [y]
        exact ⟨fun q => absurd q (hs_nI_neg (by omega)), fun q => absurd q (by omega)⟩
      · rw [y]
        exact nI_eq (by omega) (by omega)
    have three : ¬ ((f ≠ bb ∧ hm_faceT t f a) ∧ l' < A f) → wpX12_laysPath (K + 4) 3 (hq_r t R c) li lj Q := by
      intro z
      show wbX12_laysPath_3 (wpX12_laysPath (K + 3)) (K + 3) (hq_r t R c) li lj Q
      refine ⟨fun q => four (fun y => y.1 (beq.mp q)), fun q => ?_⟩
      have nb : f ≠ bb := fun y => q (beq.mpr y)
      rw [e9, e5]
      refine hm_isFaceThere (t := hq_r t R c) (by omega) (by omega) (by omega) (fun fc => ⟨fun x => absurd x (by decide), fun _ => ⟨vp_in_nI (by omega) (by decide), fun v20 e20 => ?_⟩⟩) (fun nf => ⟨fun _ => four (fun y => nf y.2), fun x => absurd rfl x⟩)
      have e20 : v20 = lN (A f) := by
        rw [e20, cf]
        show t.2.2.2 0 f = _
        rw [hW0]; exact hW f (by omega)
      have le : A f ≤ l' := by
        refine Nat.le_of_not_lt (fun y => z ⟨⟨nb, fc⟩, y⟩)
      exact five (K + 3) (A f) _ _ (by omega) le (hq_sel1 ⟨nb, fc⟩).symm e2 e5 e6 e9 e7 e20
    show wbX12_laysPath_2 (wpX12_laysPath (K + 4)) (K + 4) (hq_r t R c) li lj Q
    refine ⟨fun q => three (fun y => y.1.1 (beq.mp q)), fun q => ?_⟩
    have nb : f ≠ bb := fun y => q (beq.mpr y)
    have e9' := e9
    rw [e9, e5]
    refine hm_isFaceThere (t := hq_r t R c) (by omega) (by omega) (by omega) (fun fc => ⟨fun x => absurd x (by decide), fun _ => ⟨vp_in_nI (by omega) (by decide), fun v10 e10 v11 e11 => ?_⟩⟩) (fun nf => ⟨fun _ => three (fun y => nf y.1.2), fun x => absurd rfl x⟩)
    have e10 : v10 = lN (A f) := by
      rw [e10, cf]
      show t.2.2.2 0 f = _
      rw [hW0]; exact hW f (by omega)
    have cmp : 0 < v11 ↔ l' < A f := by
      rw [e11, e10, e7, lg_cmp_gt]
      exact hq_lN_lt (by omega) (by omega)
    refine ⟨fun y => ?_, fun y => three (fun z => y (cmp.mpr z.2))⟩
    have g := take (K + 4) f l' li lj (by omega) (by omega) nb fc (cmp.mp y) el e2 e9' e7
    unfold hq_takeP at g
    rw [e9'] at g
    exact g
theorem hwT_tot {t : XT} {n a bb : Nat} {A : Nat → Nat} (hn : n ≤ 60) (hb : (bb = 60 ∧ hm_par t a = -1) ∨ (bb < 60 ∧ hm_par t a = nI bb)) : hq_tot t n bb a A = hwT t n a A := by
  refine hq_sum_eq n (fun x hx => ?_)
  show hq_sel (x ≠ bb ∧ hm_faceT t x a) (A x) = hq_sel (hm_faceT t x a ∧ hm_par t a ≠ nI x) (A x)
  have w : x ≠ bb ↔ hm_par t a ≠ nI x := by
    rcases hb with ⟨b1, b2⟩ | ⟨b1, b2⟩
    · exact ⟨fun _ q => hs_nI_neg (by omega) (q.symm.trans b2), fun _ => by omega⟩
    · rw [b2]
      exact ⟨fun q z => q ((nI_eq (by omega) (by omega)).mp z).symm, fun q z => q (by rw [z])⟩
  by_cases q : x ≠ bb ∧ hm_faceT t x a
  · rw [hq_sel1 q, hq_sel1 ⟨q.2, w.mp q.1⟩]
  · rw [hq_sel0 q, hq_sel0 (fun z => q ⟨w.mpr z.2, z.1⟩)]
theorem hmx_lays_go {t : XT} {c e : Nat} {A : Nat → Nat} {W : Nat → Int64} {Q : Int32 → XT → Prop} (hc : c ≤ 60) (he : e < c) (ce : hm_par t e = -1) (hMt : hm_match t c) (hW0 : t.2.2.2 0 = W) (hF : hq_full t c e W A)
    :
    ∀ (N : Nat) (l : List Nat) (a left len bb K : Nat) (R : Nat → Int32) (li : Nat → Int32) (lj : Nat → Int64), l.length ≤ N → hpt t c e A l a left → a < c → ((bb = 60 ∧ li 6 = -1 ∧ hm_par t a = -1) ∨ (bb < c ∧ li 6 = nI bb ∧ hm_par t a = nI bb)) → bb ≠ e → len + l.length ≤ 121 → 1000 * l.length + 1000 ≤ K → li 2 = nI e → li 5 = nI a → lj 7 = lN left → Q 1 (hq_r t (hpr R len l) (len + l.length)) → wpX12_laysPath K 1 (hq_r t R len) li lj Q := by
  intro N
  induction N with
  | zero =>
    intro l a left len bb K R li lj hN hp
    cases l with
    | nil => exact hp.elim
    | cons f r => exact absurd hN (by show ¬ (r.length + 1 ≤ 0); omega)
  | succ N ih =>
    intro l a left len bb K R li lj hN hp ha hb be hlen hK e2 e5 e7 hQ
    have hbT : (bb = 60 ∧ hm_par t a = -1) ∨ (bb < 60 ∧ hm_par t a = nI bb) := hb.elim (fun z => Or.inl ⟨z.1, z.2.2⟩) (fun z => Or.inr ⟨by omega, z.2.2⟩)
    have hbS : (bb = 60 ∧ li 6 = -1) ∨ (bb < c ∧ li 6 = nI bb) := hb.elim (fun z => Or.inl ⟨z.1, z.2.1⟩) (fun z => Or.inr ⟨z.1, z.2.1⟩)
    have n62 : ¬ li 6 = li 2 := by
      rw [e2]
      rcases hbS with ⟨_, z⟩ | ⟨z1, z⟩
      · rw [z]; exact fun q => hs_nI_neg (by omega) q.symm
      · rw [z]; exact fun q => be ((nI_eq (by omega) (by omega)).mp q)
    have start : ∀ f z, hch t c A a left f z → (∀ (K' : Nat) (li' : Nat → Int32) (lj' : Nat → Int64), K ≤ K' + 400 → li' 2 = nI e → li' 9 = nI f → lj' 7 = lN z → hq_takeP K' (hq_r t R len) li' lj' Q) → wpX12_laysPath K 1 (hq_r t R len) li lj Q := by
      intro f z h T
      obtain ⟨K, rfl⟩ : ∃ K', K = K' + 1 := ⟨K - 1, by omega⟩
      show wbX12_laysPath_1 (wpX12_laysPath K) K (hq_r t R len) li lj Q
      refine ⟨fun q => absurd q n62, fun _ => ?_⟩
      have hl : left < hq_tot t c bb a A := by
        rw [hwT_tot hc hbT]
        have := hwT_le (tm := t) (a := a) (A := A) (i := f + 1) (j := c) (by have := h.1; omega)
        rw [hwT_s, hq_sel1 h.2.1] at this
        have h1 := h.2.2.1
        have h2 := h.2.2.2
        omega
      refine hmx_lp_scan (t := t) (e := e) (a := a) (bb := bb) (L := K - 399) (b6 := li 6) hc ha hbS hW0 hF.1 hF.2.1 hl (by omega) (fun K' f' l' li' lj' k1 hf nbf fc lt el a2 a9 a7 => ?_) c 0 K left _ _ (by omega) (by omega) rfl e2 e5 rfl rfl e7
      have cond : hm_faceT t f' a ∧ hm_par t a ≠ nI f' := by
        refine ⟨fc, fun q => nbf ?_⟩
        rcases hbT with ⟨b1, b2⟩ | ⟨b1, b2⟩
        · exact absurd (q.symm.trans b2) (hs_nI_neg (by omega))
        · exact (nI_eq (by omega) (by omega)).mp (q.symm.trans b2)
      obtain ⟨u1, u2⟩ := hch_uni h (show hch t c A a left f' l' from ⟨hf, cond, by rw [el, hwT_tot (by omega) hbT]; omega, lt⟩)
      subst u1
      subst u2
      exact T K' li' lj' (by omega) a2 a9 a7
    match l, hp with
    | [f], hp =>
      obtain ⟨q, z, h⟩ := hp
      have len1 : [f].length = 1 := rfl
      refine start f z h (fun K' li' lj' k1 a2 a9 a7 => ?_)
      unfold hq_takeP
      rw [a9]
      refine hq_rows (by omega) (by omega) ⟨fun _ => ?_, fun nq => absurd (show nI f = li' 2 by rw [q, a2]) nq⟩
      obtain ⟨K', rfl⟩ : ∃ K'', K' = K'' + 2 := ⟨K' - 2, by omega⟩
      show wbX12_laysPath_1 (wpX12_laysPath K') K' _ _ lj' Q
      exact ⟨fun _ => hQ, fun nq => absurd (show nI f = li' 2 by rw [q, a2]) nq⟩
    | f :: p :: r, hp =>
      obtain ⟨q, z, h, hp', ep, lo, gp, dp, hr⟩ := hp
      have len2 : (f :: p :: r).length = r.length + 2 := rfl
      have hf := h.1
      refine start f z h (fun K' li' lj' k1 a2 a9 a7 => ?_)
      unfold hq_takeP
      rw [a9]
      refine hq_rows (by omega) (by omega) ⟨fun y => absurd ((nI_eq (by omega) (by omega)).mp (y.trans a2)) q, fun _ => ⟨vp_in_nI (n := f) (by omega) (by decide), fun v15 f15 => ?_⟩⟩
      have f15 : v15 = nI p := f15.trans ((congrArg (t.2.2.1 4) (hw_clamp (by omega))).trans ep)
      subst f15
      refine hq_rows (by omega) (by omega) ?_
      obtain ⟨K', rfl⟩ : ∃ K'', K' = K'' + 1 := ⟨K' - 1, by omega⟩
      show wbX12_laysPath_6 (wpX12_laysPath K') K' _ _ lj' Q
      have eb : hm_par t p = nI f := by
        rcases hMt f hf with y | ⟨p2, hp2, ep2, eb2, _⟩
        · exact absurd y lo.1
        · have : p2 = p := (nI_eq (by omega) (by omega)).mp (ep2.symm.trans ep)
          rw [← this]; exact eb2
      refine ih r p z (len + 1 + 1) f K' _ _ lj' (by omega) hr hp' (Or.inr ⟨hf, rfl, eb⟩) q (by omega) (by omega) a2 rfl a7 ?_
      rw [len2, show len + (r.length + 2) = len + 1 + 1 + r.length by omega] at hQ
      exact hQ
theorem hpt_w {t : XT} {W G : Nat → Int64} {m e : Nat} {A : Nat → Nat} : ∀ (N : Nat) (l : List Nat) (a x : Nat), l.length ≤ N → hpt t m e A l a x → hpt (hq_w t W G) m e A l a x := by
  intro N
  induction N with
  | zero =>
    intro l a x hN hp
    cases l with
    | nil => exact hp.elim
    | cons f r => exact absurd hN (by show ¬ (r.length + 1 ≤ 0); omega)
  | succ N ih =>
    intro l a x hN hp
    match l, hp with
    | [f], hp => exact hp
    | f :: p :: r, hp =>
      obtain ⟨q, z, h, a1, a2, a3, a4, a5, hr⟩ := hp
      have len2 : (f :: p :: r).length = r.length + 2 := rfl
      exact ⟨q, z, h, a1, a2, a3, a4, a5, ih r p z (by omega) hr⟩
theorem hmx_laysPath {t : XT} {m s e x K : Nat} {A : Nat → Nat} {l : List Nat} {Q : Int32 → XT → Prop} (hm : t.1 3 = nI m) (hm60 : m ≤ 60) (hM : hm_match t m) (hA : hm_acyc t m) (hs : s < m) (he : e < m) (cs : hm_par t s = -1) (ce : hm_par t e = -1) (ds : hm_dim t s = hm_dim t e + 1) (hx : x < 2 ^ 62) (hwA : hwf t m e A) (hK : 200000 ≤ K)
    (h1 : ∀ W G, x < hwT t m s A → hpt t m e A l s x → l.length ≤ 120 → Q 1 (hq_r (hq_w t W G) (hpr (upd (t.2.2.1 10) 0 (nI s)) 1 l) (1 + l.length))) (hl : x < hwT t m s A → hpt t m e A l s x ∧ l.length ≤ 120) (h0 : ∀ W G, ¬ x < hwT t m s A → Q 0 (hq_w t W G)) : wqX12_laysPath K t (nI s) (nI e) (lN x) Q := by
  obtain ⟨K, rfl⟩ : ∃ K', K = K' + 1 := ⟨K - 1, by omega⟩
  show wbX12_laysPath_0 (wpX12_laysPath K) K t (uI (uI (fun _ => 0) 1 (nI s)) 2 (nI e)) (uI (fun _ => 0) 3 (lN x)) Q
  refine hq_waysFrom2 hm hm60 hM hA hs he (by omega) (fun W G A1 hF v2 e2 => ?_)
  have same := hwf_eq hm60 hM hA hF.2.2 hwA
  have tot1 : hq_tot t m 60 s A1 = hwT t m s A := by
    rw [hwT_tot hm60 (Or.inl ⟨rfl, cs⟩)]
    refine hq_sum_eq m (fun g hg => ?_)
    show hq_sel (hm_faceT t g s ∧ hm_par t s ≠ nI g) (A1 g) = hq_sel (hm_faceT t g s ∧ hm_par t s ≠ nI g) (A g)
    rw [same g hg]
  have tl : hq_tot t m 60 s A1 ≤ hm_sum A1 m := hq_tot_le
  have hS := hF.2.1
  have p62 : (2 : Nat) ^ 60 < 2 ^ 63 := by decide
  have p63 : (2 : Nat) ^ 62 < 2 ^ 63 := by decide
  have cmp : v2 < 0 ↔ x < hwT t m s A := by
    rw [e2, tot1]
    show lg_cmp (lN x) (lN (hwT t m s A)) < 0 ↔ _
    rw [lg_cmp_lt]
    exact hq_lN_lt (by omega) (by omega)
  refine ⟨fun y t4 e4 => ?_, fun y => h0 W G (fun z => y (cmp.mpr z))⟩
  have lt := cmp.mp y
  obtain ⟨hp, hlen⟩ := hl lt
  have e4 : t4 = hq_r (hq_w t W G) (t.2.2.1 10) 0 := by
    rw [e4]
    show sI (hq_w t W G) 5 0 = sI (sA (hq_w t W G) 10 ((hq_w t W G).2.2.1 10)) 5 (nI 0)
    rw [hm_sA0]; rfl
  rw [e4]
  refine hq_rows (by omega) (by omega) ?_
  have hF' : hq_full (hq_w t W G) m e W A := ⟨fun k hk => (hF.1 k hk).trans (by rw [same k hk]), (by
    have : hm_sum A m = hm_sum A1 m := hq_sum_eq m (fun k hk => (same k hk).symm)
    rw [this]; exact hF.2.1), hwA⟩
  have se : s ≠ e := fun q => by rw [q] at ds; exact hw_succ_ne _ ds
  exact hmx_lays_go (t := hq_w t W G) (W := W) (A := A) hm60 he ce hM rfl hF' l.length l s x 1 60 K _ _ _ (Nat.le_refl _) (hpt_w l.length l s x (Nat.le_refl _) hp) hs (Or.inl ⟨rfl, rfl, cs⟩) (by omega) (by omega) (by omega) rfl rfl rfl (h1 W G lt hp hlen)
