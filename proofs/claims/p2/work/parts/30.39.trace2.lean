/-! ===== the class: chosenFace and trace, exactly ===== -/
theorem hfull_ex {t : XT} {m e : Nat} (hm : t.1 3 = nI m) (hm60 : m ≤ 60) (hM : hm_match t m) (hA : hm_acyc t m) (he : e < m) : ∃ (W : Nat → Int64) (A : Nat → Nat), hq_full t m e W A := by
  obtain ⟨K, hK⟩ : ∃ K, K = 30000 := ⟨_, rfl⟩
  obtain ⟨_, h⟩ := wxX12_laysWays (hq_laysWays2 (K := K) (Q := fun _ => ∃ (W : Nat → Int64) (A : Nat → Nat), hq_full t m e W A) hm hm60 hM hA he (by omega) (fun W G A h => ⟨W, A, h⟩))
  exact h
theorem hs_sJJ (t : XT) (k : Nat) (v w : Int64) : sJ (sJ t k v) k w = sJ t k w := by
  unfold sJ uI
  refine Prod.ext rfl (Prod.ext ?_ rfl)
  funext j
  show cond (Nat.beq j k) w (cond (Nat.beq j k) v (t.2.1 j)) = cond (Nat.beq j k) w (t.2.1 j)
  cases Nat.beq j k <;> rfl
theorem hwT_gap {tm : XT} {a y : Nat} {A : Nat → Nat} : ∀ d, (∀ x, y ≤ x → x < y + d → ¬ (hm_faceT tm x a ∧ hm_par tm a ≠ nI x)) → hwT tm (y + d) a A = hwT tm y a A := by
  intro d
  induction d with
  | zero => intro _; rfl
  | succ d ih =>
    intro h
    rw [show y + (d + 1) = y + d + 1 by omega, hwT_s, ih (fun x a b => h x a (by omega)), hq_sel0 (h (y + d) (by omega) (by omega))]
    exact Nat.add_zero _
theorem hpx_chosen_go {t tm : XT} {L : Nat → Int32} {c a left f l : Nat} {A : Nat → Nat} {Q : Int32 → XT → Prop} (hE : hcE t L c) (hM : hmE tm L c) (hL : hnL L c) (hP : hPJ t tm c) (ha : a < c) (ga : hm_gone tm a = 0) (h : hch tm c A a left f l) (hA : ∀ x, x < c → A x < 2 ^ 62) (hl : left < 2 ^ 62) (hW : ∀ x, x < 64 → hf_b (t.2.2.1 5) (t.2.2.2 0) a x = true → t.2.2.2 4 x = lN (hq_sel (hm_gone tm x = 0) (A x))) (hQ : Q (nI f) (sJ t 5 (lN l))) :
    ∀ (d i K y z : Nat) (li : Nat → Int32) (lj : Nat → Int64), i + d = 5 → 2 * d + 10 ≤ K → cp (hb (lj 2)) 64 + i ≤ 5 → (∀ x, x < 64 → (hb (lj 2) x = true ↔ (hf_b (t.2.2.1 5) (t.2.2.2 0) a x = true ∧ y ≤ x))) → z + hwT tm y a A = left → li 5 = nI i → wpX1_chosenFace K 1 (sJ t 5 (lN z)) li lj Q := by
  have hc := hL.1
  obtain ⟨hf, hcond, hleft, hlt⟩ := h
  have gone_f : hm_gone tm f = 0 := hcond.1.1
  have bf : hf_b (t.2.2.1 5) (t.2.2.2 0) a f = true := (hw_below hE hM hL hP ha hf ga gone_f).mpr hcond
  have up := hwT_s tm f a A
  rw [hq_sel1 hcond] at up
  intro d
  have yf : ∀ y z : Nat, z + hwT tm y a A = left → y ≤ f := by
    intro y z e
    refine Nat.le_of_not_lt (fun q => ?_)
    have := hwT_le (tm := tm) (a := a) (A := A) (i := f + 1) (j := y) (by omega)
    omega
  induction d with
  | zero =>
    intro i K y z li lj hd hK hcp hv hz e5
    have b : hb (lj 2) f = true := (hv f (by omega)).mpr ⟨bf, yf y z hz⟩
    have := cp_pos (hb (lj 2)) b (show f < 64 by omega)
    omega
  | succ d ih =>
    intro i K y z li lj hd hK hcp hv hz e5
    obtain ⟨K, rfl⟩ : ∃ K', K = K' + 1 := ⟨K - 1, by omega⟩
    have b : hb (lj 2) f = true := (hv f (by omega)).mpr ⟨bf, yf y z hz⟩
    show wbX1_chosenFace_1 (wpX1_chosenFace K) K (sJ t 5 (lN z)) li lj Q
    unfold wbX1_chosenFace_1
    rw [e5]
    refine ⟨fun x => absurd x (show ¬ nI 5 ≤ nI i from nI_ge (by omega) (by omega)), fun _ v4 f4 => ⟨fun q => absurd (hb_z (f4.symm.trans q) f) (by rw [b]; decide), fun nz => ?_⟩⟩
    rcases hb_ne (v := lj 2) with q | ⟨j, hj, j1, j0⟩
    · exact absurd (f4.trans ((hs_cmp0 _ _).mpr q)) nz
    have jf : j ≤ f := Nat.le_of_not_lt (fun q => by rw [j0 f q] at b; exact absurd b (by decide))
    obtain ⟨bj, yj⟩ := (hv j hj).mp j1
    have jc : j < c := by omega
    have gap : hwT tm j a A = hwT tm y a A := by
      have := hwT_gap (tm := tm) (a := a) (y := y) (A := A) (j - y) (fun x x1 x2 w => by
        have gx : hm_gone tm x = 0 := w.1.1
        have bx : hf_b (t.2.2.1 5) (t.2.2.2 0) a x = true := (hw_below hE hM hL hP ha (by omega) ga gx).mpr w
        have := (hv x (by omega)).mpr ⟨bx, x1⟩
        rw [j0 x (by omega)] at this; exact absurd this (by decide))
      rw [show y + (j - y) = j by omega] at this; exact this
    refine hw_lowest hj j1 j0 (by omega) ⟨vp_in_nI hj (by decide), fun v7 f7 v8 f8 => ?_⟩
    have f7 : v7 = lN (hq_sel (hm_gone tm j = 0) (A j)) := f7.trans ((congrArg (t.2.2.2 4) (hw_clamp hj)).trans (hW j hj bj))
    have f8 : v8 = lg_cmp (lN z) v7 := f8
    have Bj : hq_sel (hm_gone tm j = 0) (A j) < 2 ^ 62 := Nat.lt_of_le_of_lt (hq_sel_le _ _) (hA j jc)
    have cmp : (0 : Int32) ≤ v8 ↔ hq_sel (hm_gone tm j = 0) (A j) ≤ z := by
      rw [f8, f7, lg_cmp_ge]
      have w := hq_lN_lt (a := z) (b := hq_sel (hm_gone tm j = 0) (A j)) (by omega) (by omega)
      refine ⟨fun x => Nat.le_of_not_lt (fun q => Int64.not_lt.mpr x (w.mpr q)), fun x => Int64.not_lt.mp (fun q => ?_)⟩
      have := w.mp q
      omega
    by_cases ej : j = f
    · subst ej
      have zl : z = l := by omega
      subst zl
      refine ⟨fun x => ?_, fun _ => hQ⟩
      have := cmp.mp x
      rw [hq_sel1 gone_f] at this
      omega
    · have lt : j + 1 ≤ f := by omega
      have mono := hwT_le (tm := tm) (a := a) (A := A) (i := j + 1) (j := f) lt
      have step : hwT tm (j + 1) a A = hwT tm j a A + hq_sel (hm_gone tm j = 0) (A j) := by
        rw [hwT_s]
        by_cases gj : hm_gone tm j = 0
        · rw [hq_sel1 gj, hq_sel1 ((hw_below hE hM hL hP ha jc ga gj).mp bj)]
        · rw [hq_sel0 gj, hq_sel0 (fun w => gj w.1.1)]
      have le : hq_sel (hm_gone tm j = 0) (A j) ≤ z := by omega
      refine ⟨fun _ => ⟨vp_in_nI hj (by decide), fun v10 f10 v11 f11 t12 f12 v13 f13 v14 f14 v15 f15 => ?_⟩, fun x => absurd (cmp.mpr le) x⟩
      have f10 : v10 = lN (hq_sel (hm_gone tm j = 0) (A j)) := f10.trans ((congrArg (t.2.2.2 4) (hw_clamp hj)).trans (hW j hj bj))
      have f11 : v11 = lN (z - hq_sel (hm_gone tm j = 0) (A j)) := by
        rw [f11, f10]; exact hq_lN_sub le
      have e12 : t12 = sJ t 5 (lN (z - hq_sel (hm_gone tm j = 0) (A j))) := by
        rw [f12, f11]; exact hs_sJJ t 5 _ _
      have rb : ∀ x, hb v14 x = (hb (lj 2) x && !decide (x = j)) := fun x => by
        have := hf_rest j1 j0 x
        rw [f14, f13]; exact this
      rw [e12]
      refine ih (i + 1) K (j + 1) _ _ _ (by omega) (by omega) ?_ (fun x hx => ?_) ?_ (by show v15 = _; rw [f15]; exact hs_inc i)
      · show cp (hb v14) 64 + (i + 1) ≤ 5
        rw [show hb v14 = fun x => hb (lj 2) x && !decide (x = j) from funext rb]
        have := cp_rem (hb (lj 2)) j1 64
        rw [if_pos hj] at this; omega
      · show hb v14 x = true ↔ _
        rw [rb x, Bool.and_eq_true, hv x hx]
        refine ⟨fun w => ⟨w.1.1, ?_⟩, fun w => ⟨⟨w.1, by omega⟩, by rw [decide_eq_false (by omega)]; rfl⟩⟩
        by_cases q : x < j
        · have bx := (hv x hx).mpr w.1
          rw [j0 x q] at bx; exact absurd bx (by decide)
        · by_cases r : x = j
          · rw [decide_eq_true r] at w; exact absurd w.2 (by decide)
          · omega
      · omega
theorem hpx_chosen {t tm : XT} {L : Nat → Int32} {c a left f l K : Nat} {A : Nat → Nat} {Q : Int32 → XT → Prop} (hE : hcE t L c) (hM : hmE tm L c) (hL : hnL L c) (hP : hPJ t tm c) (hMt : hm_match tm c) (hF : h6_F t) (ha : a < c) (ga : hm_gone tm a = 0) (h : hch tm c A a left f l) (hA : ∀ x, x < c → A x < 2 ^ 62) (hl : left < 2 ^ 62) (hW : ∀ x, x < 64 → hf_b (t.2.2.1 5) (t.2.2.2 0) a x = true → t.2.2.2 4 x = lN (hq_sel (hm_gone tm x = 0) (A x))) (hK : 60 ≤ K) (hQ : Q (nI f) (sJ t 5 (lN l))) : wqX1_chosenFace K (sJ t 5 (lN left)) (nI a) Q := by
  have hc := hL.1
  obtain ⟨K, rfl⟩ : ∃ K', K = K' + 1 := ⟨K - 1, by omega⟩
  have bf : hf_b (t.2.2.1 5) (t.2.2.2 0) a f = true := (hw_below hE hM hL hP ha h.1 ga h.2.1.1.1).mpr h.2.1
  have bk : ∀ x, hf_b (t.2.2.1 5) (t.2.2.2 0) a x = true → hb (t.2.2.2 0 a) x = true := fun x h => by
    unfold hf_b at h
    rw [Bool.and_eq_true] at h; exact h.1
  show wbX1_chosenFace_0 (wpX1_chosenFace K) K (sJ t 5 (lN left)) (uI (fun _ => 0) 1 (nI a)) (fun _ => 0) Q
  refine hf_below (t := sJ t 5 (lN left)) (by omega) (hw_hxp hc hP hMt ha) (by omega) (fun v bv => ?_)
  have bv : ∀ x, x < 64 → hb v x = hf_b (t.2.2.1 5) (t.2.2.2 0) a x := bv
  rcases hb_ne (v := v) with q | ⟨j, hj, j1, j0⟩
  · have := bv f (by have := h.1; omega)
    rw [bf, q, hb_0] at this
    exact absurd this (by decide)
  refine hw_lowest hj j1 j0 (by omega) ?_
  refine hpx_chosen_go hE hM hL hP ha ga h hA hl hW hQ 5 0 K 0 left _ _ (by omega) (by omega) ?_ (fun x hx => ?_) (Nat.add_zero _) rfl
  · show cp (hb v) 64 + 0 ≤ 5
    refine Nat.le_trans ?_ (hF.2 a (by omega))
    exact cp_im 64 (hb v) (hb (t.2.2.2 0 a)) (fun x => x) 64 (fun f hf => by
      have l : f < 64 := Nat.lt_of_not_le (fun q => by rw [hb_big q] at hf; exact absurd hf (by decide))
      exact ⟨f, l, bk f (by rw [← bv f l]; exact hf), rfl⟩)
  · show hb v x = true ↔ _
    rw [bv x hx]
    exact ⟨fun w => ⟨w, Nat.zero_le _⟩, fun w => w.1⟩
/-- the class's state within trace -/
def hts (u : XT) (z : Nat) (R : Nat → Int32) : XT := sA (sJ u 5 (lN z)) 8 R
theorem hpx_trace_go {u tm : XT} {L : Nat → Int32} {c e n' : Nat} {A : Nat → Nat} {lj : Nat → Int64} {Q : Int32 → XT → Prop} (hE : hcE u L c) (hM : hmE tm L c) (hL : hnL L c) (hP : hPJ u tm c) (hI : hq_inv tm c n') (hF : h6_F u) (he : e < c) (hA : ∀ x, x < c → A x < 2 ^ 62) (hW : ∀ a, a < c → hm_gone tm a = 0 → hm_dim tm a = hm_dim tm e + 1 → ∀ x, x < 64 → hf_b (u.2.2.1 5) (u.2.2.2 0) a x = true → u.2.2.2 4 x = lN (hq_sel (hm_gone tm x = 0) (A x))) :
    ∀ (N : Nat) (l : List Nat) (a left len K : Nat) (R : Nat → Int32) (li : Nat → Int32), l.length ≤ N → hpt tm c e A l a left → a < c → hm_gone tm a = 0 → hm_dim tm a = hm_dim tm e + 1 → left < 2 ^ 62 → len + l.length ≤ 60 → 100 * l.length + 200 ≤ K → li 2 = nI e → li 5 = nI len → li 6 = nI a → (∀ z, Q (nI (len + l.length)) (hts u z (hpr R len l))) → wpX1_trace K 1 (hts u left R) li lj Q := by
  have hc := hL.1
  intro N
  induction N with
  | zero =>
    intro l a left len K R li hN hp
    cases l with
    | nil => exact hp.elim
    | cons f r => exact absurd hN (by show ¬ (r.length + 1 ≤ 0); omega)
  | succ N ih =>
    intro l a left len K R li hN hp ha ga da hl hlen hK e2 e5 e6 hQ
    have ne : a ≠ e := fun q => hw_succ_ne _ (by rw [q] at da; exact da)
    have eqR : ∀ (z : Nat) (x : Int32) (R0 : Nat → Int32) (k : Nat), k < 64 → sA (hts u z R0) 8 (upd ((hts u z R0).2.2.1 8) (nI k).toNatClampNeg x) = hts u z (upd R0 k x) := by
      intro z x R0 k hk
      rw [hw_clamp hk]
      exact hm_sAA (sJ u 5 (lN z)) 8 R0 _
    obtain ⟨K, rfl⟩ : ∃ K', K = K' + 3 := ⟨K - 3, by omega⟩
    have start : ∀ (f z : Nat) (rl : Nat), hch tm c A a left f z → len + 1 + rl ≤ 60 → (f = e → wpX1_trace (K + 2) 2 (hts u z (upd R len (nI f))) (uI (uI (uI li 5 (nI (len + 1))) 6 (nI f)) 7 (nI f)) lj Q) → (¬ f = e → ∃ p, p < c ∧ hm_par tm f = nI p ∧ len + 2 ≤ 60 ∧ wpX1_trace (K + 2) 2 (hts u z (upd (upd R len (nI f)) (len + 1) (nI p))) (uI (uI (uI li 5 (nI (len + 2))) 6 (nI p)) 7 (nI f)) lj Q) → wpX1_trace (K + 3) 1 (hts u left R) li lj Q := by
      intro f z rl h hr A1 A2
      have hf := h.1
      show wbX1_trace_1 (wpX1_trace (K + 2)) (K + 2) (hts u left R) li lj Q
      unfold wbX1_trace_1
      rw [e2, e5, e6]
      refine ⟨fun q => absurd ((nI_eq (by omega) (by omega)).mp q) ne, fun _ v4 f4 => ⟨fun q => ?_, fun _ => ?_⟩⟩
      · have f4 : v4 = nI (len + 2) := f4.trans (nI_add len 2)
        rw [f4] at q
        exact absurd (show nI 64 ≤ nI (len + 2) from q) (nI_ge (by omega) (by omega))
      · refine hpx_chosen (t := sA u 8 R) hE hM hL hP hI.2.2.2.1 hF ha ga h hA hl (hW a ha ga da) (by omega) ⟨vp_in_nI (n := len) (by omega) (by decide), fun t7 f7 v8 f8 => ?_⟩
        have f7 : t7 = hts u z (upd R len (nI f)) := f7.trans (eqR z (nI f) R len (by omega))
        have f8 : v8 = nI (len + 1) := by rw [f8]; exact hs_inc len
        subst f7
        subst f8
        refine ⟨fun q => A1 ((nI_eq (by omega) (by omega)).mp q), fun q => ?_⟩
        have nq : ¬ f = e := fun w => q (by rw [w])
        obtain ⟨p, hp', ep, l2, w⟩ := A2 nq
        have pf : u.2.2.1 5 f = nI p := (hP.1 f hf).trans ep
        refine ⟨vp_in_nI (n := f) (by omega) (by decide), fun v10 f10 => ⟨fun y => ?_, fun _ => ⟨vp_in_nI (n := f) (by omega) (by decide), fun v12 f12 => ⟨vp_in_nI (n := len + 1) (by omega) (by decide), fun t13 f13 v14 f14 => ?_⟩⟩⟩⟩
        · have f10 : v10 = nI p := f10.trans ((congrArg (u.2.2.1 5) (hw_clamp (by omega))).trans pf)
          exact absurd (f10.symm.trans y) (hs_nI_neg (by omega))
        · have f12 : v12 = nI p := f12.trans ((congrArg (u.2.2.1 5) (hw_clamp (by omega))).trans pf)
          subst f12
          have f13 : t13 = hts u z (upd (upd R len (nI f)) (len + 1) (nI p)) := f13.trans (eqR z (nI p) _ (len + 1) (by omega))
          have f14 : v14 = nI (len + 2) := by rw [f14]; exact hs_inc (len + 1)
          subst f13
          subst f14
          exact w
    match l, hp with
    | [f], hp =>
      obtain ⟨q, z, h⟩ := hp
      refine start f z 0 h (by have : [f].length = 1 := rfl; omega) (fun _ => ?_) (fun nq => absurd q nq)
      show wbX1_trace_2 (wpX1_trace (K + 1)) (K + 1) _ _ lj Q
      show wbX1_trace_1 (wpX1_trace K) K _ _ lj Q
      refine ⟨fun _ => ?_, fun nq => absurd (show nI f = li 2 by rw [q, e2]) nq⟩
      obtain ⟨K, rfl⟩ : ∃ K', K = K' + 1 := ⟨K - 1, by have : [f].length = 1 := rfl; omega⟩
      exact hQ z
    | f :: p :: r, hp =>
      obtain ⟨q, z, h, hp', ep, lo, gp, dp, hr⟩ := hp
      have len2 : (f :: p :: r).length = r.length + 2 := rfl
      have hz : z < 2 ^ 62 := by have := h.2.2.1; omega
      refine start f z (r.length + 1) h (by omega) (fun y => absurd y q) (fun _ => ⟨p, hp', ep, by omega, ?_⟩)
      show wbX1_trace_2 (wpX1_trace (K + 1)) (K + 1) _ _ lj Q
      refine ih r p z (len + 2) (K + 1) _ _ (by omega) hr hp' gp dp hz (by omega) (by omega) e2 rfl rfl (fun w => ?_)
      have := hQ w
      rw [len2, show len + (r.length + 2) = len + 2 + r.length by omega] at this
      exact this
