/-! ===== the class: countWays, exactly: how many PATHS ===== -/
theorem hw_succ_ne (a : Int32) : a ≠ a + 1 := by
  intro h
  have h2 : a - a = a + 1 - a := congrArg (· - a) h
  rw [Int32.sub_self, Int32.add_comm, Int32.add_sub_cancel] at h2
  exact absurd h2 (by decide)
theorem hw_cancel {a b : Int32} (h : a + 1 = b + 1) : a = b := by
  have h2 : a + 1 - 1 = b + 1 - 1 := congrArg (· - 1) h
  rw [Int32.add_sub_cancel, Int32.add_sub_cancel] at h2; exact h2
theorem hwV_A {tm : XT} {c s e x : Nat} {A : Nat → Nat} (hA : hwf tm c e A) (he : e < c) (hx : x < c) (gx : hm_gone tm x = 0) (dx : hm_dim tm x = hm_dim tm e) (ds : hm_dim tm s = hm_dim tm e + 1) : hwV tm c s e A x = A x := by
  unfold hwV
  by_cases q : x = e
  · rw [if_pos q, q]
    have := hA.2 e he (fun z => z.2.1 rfl)
    rw [if_pos rfl] at this; exact this.symm
  · rw [if_neg q, if_neg (fun z => hw_succ_ne (hm_dim tm e) (dx.symm.trans (z.trans ds)))]
    by_cases l : hm_low tm x
    · exact hq_sel1 ⟨dx, l⟩
    · rw [hq_sel0 (fun z => l z.2)]
      have := hA.2 x hx (fun z => l z.2.2.1)
      rw [if_neg q] at this; exact this.symm
theorem hwV_T {tm : XT} {c s e x : Nat} {A : Nat → Nat} (ne : x ≠ e) (dx : hm_dim tm x = hm_dim tm s) : hwV tm c s e A x = hwT tm c x A := by
  unfold hwV
  rw [if_neg ne, if_pos dx]
theorem hw_dims {t tm : XT} {L : Nat → Int32} {c x : Nat} (hE : hcE t L c) (hM : hmE tm L c) (hx : x < c) : t.2.2.1 3 x = hm_dim tm x := by
  unfold hm_dim hm_let
  rw [hE.2.2.1 x hx, hM.2.1 x hx]
theorem hw_hxp {t tm : XT} {c k : Nat} (hc : c ≤ 60) (hP : hPJ t tm c) (hMt : hm_match tm c) (hk : k < c) : hx_p (t.2.2.1 5 k) := by
  rw [hP.1 k hk]
  rcases hMt k hk with e | ⟨p, hp, e, _⟩
  · exact Or.inl e
  · exact Or.inr ⟨p, by omega, e⟩
theorem hw_count_go {t tm : XT} {L : Nat → Int32} {c s e o n' : Nat} {g h : Nat → Nat} {A : Nat → Nat} {Q : Int64 → XT → Prop} (hE : hcE t L c) (hM : hmE tm L c) (hL : hnL L c) (hP : hPJ t tm c) (hI : hq_inv tm c n') (hT : hTL t tm c h o g) (hF : h6_F t) (hs : s < c) (he : e < c) (gs : hm_gone tm s = 0) (ds : hm_dim tm s = hm_dim tm e + 1) (hA : hwf tm c e A)
    (hQ : ∀ W, (∀ x, x < c → hm_gone tm x = 0 → W x = lN (hwV tm c s e A x)) → (∀ x, x < 64 → (x < c → hm_gone tm x ≠ 0) → W x = 0) → Q (W s) (sB t 4 W)) :
    ∀ (d i K : Nat) (W : Nat → Int64) (li : Nat → Int32) (lj : Nat → Int64), i + d = o → 2 * d + 60 ≤ K → (∀ j, j < i → W (g j) = lN (hwV tm c s e A (g j))) → (∀ x, x < 64 → (∀ j, j < i → g j ≠ x) → W x = 0) → li 1 = nI s → li 2 = nI e → li 3 = nI i → wpX1_countWays K 1 (sB t 4 W) li lj Q := by
  obtain ⟨t1, t2, o60, t4, t5, t6, t7, t8⟩ := hT
  have hc := hL.1
  have hMt := hI.2.2.2.1
  intro d
  induction d with
  | zero =>
    intro i K W li lj hd hK h1 h2 e1 e2 e3
    obtain ⟨K, rfl⟩ : ∃ K', K = K' + 1 := ⟨K - 1, by omega⟩
    obtain rfl : i = o := by omega
    show wbX1_countWays_1 (wpX1_countWays K) K (sB t 4 W) li lj Q
    unfold wbX1_countWays_1
    rw [e1, e3]
    refine ⟨fun _ => ⟨vp_in_nI (n := s) (by omega) (by decide), fun v4 f4 => ?_⟩, fun x => absurd (show t.1 6 ≤ nI i by rw [t4]; exact nI_le (Nat.le_refl _) (by omega)) x⟩
    have f4 : v4 = W s := f4.trans (congrArg W (hw_clamp (by omega)))
    rw [f4]
    refine hQ W (fun x hx gx => ?_) (fun x hx no => h2 x hx (fun j hj ej => ?_))
    · obtain ⟨j, hj, ej⟩ := t7 x hx gx
      rw [← ej]; exact h1 j hj
    · obtain ⟨_, q1, q2⟩ := t5 j hj
      rw [ej] at q1 q2
      exact no q1 q2
  | succ d ih =>
    intro i K W li lj hd hK h1 h2 e1 e2 e3
    obtain ⟨K, rfl⟩ : ∃ K', K = K' + 2 := ⟨K - 2, by omega⟩
    obtain ⟨g1, g2, g3⟩ := t5 i (by omega)
    have ci : (nI i).toNatClampNeg = i := hw_clamp (by omega)
    have cg : (nI (g i)).toNatClampNeg = g i := hw_clamp (by omega)
    have nin : ∀ j, j < i → g j ≠ g i := fun j hj q => by have := t6 j i (by omega) (by omega) q; omega
    have put : ∀ (v : Int64) (l2 : Nat → Int32), l2 1 = nI s → l2 2 = nI e → l2 3 = nI i → v = lN (hwV tm c s e A (g i)) → wpX1_countWays (K + 1) 2 (sB t 4 (vp_updL W (g i) v)) l2 lj Q := by
      intro v l2 a1 a2 a3 ev
      show wbX1_countWays_2 (wpX1_countWays K) K (sB t 4 (vp_updL W (g i) v)) l2 lj Q
      intro v21 f21
      refine ih (i + 1) K _ _ lj (by omega) (by omega) (fun j hj => ?_) (fun x hx no => ?_) a1 a2 (by show v21 = _; rw [f21, a3]; exact hs_inc i)
      · show (if g j = g i then v else W (g j)) = _
        by_cases q : j = i
        · rw [q, if_pos rfl]; exact ev
        · rw [if_neg (nin j (by omega))]; exact h1 j (by omega)
      · show (if x = g i then v else W x) = 0
        rw [if_neg (fun q => no i (by omega) q.symm)]
        exact h2 x hx (fun j hj => no j (by omega))
    have stay : ∀ l2 : Nat → Int32, l2 1 = nI s → l2 2 = nI e → l2 3 = nI i → hwV tm c s e A (g i) = 0 → wpX1_countWays (K + 1) 2 (sB t 4 W) l2 lj Q := by
      intro l2 a1 a2 a3 ez
      have w := put 0 l2 a1 a2 a3 (by rw [ez]; rfl)
      have same : vp_updL W (g i) 0 = W := by
        funext x
        show (if x = g i then 0 else W x) = W x
        by_cases q : x = g i
        · rw [if_pos q, q]; exact (h2 (g i) (by omega) nin).symm
        · rw [if_neg q]
      rw [same] at w; exact w
    have upd4 : ∀ v, sB (sB t 4 W) 4 (vp_updL ((sB t 4 W).2.2.2 4) (g i) v) = sB t 4 (vp_updL W (g i) v) := fun v => hs_sBB t 4 W _
    have D : ∀ x, x < c → (sB t 4 W).2.2.1 3 x = hm_dim tm x := fun x hx => hw_dims hE hM hx
    show wbX1_countWays_1 (wpX1_countWays (K + 1)) (K + 1) (sB t 4 W) li lj Q
    unfold wbX1_countWays_1
    rw [e1, e2, e3]
    refine ⟨fun x => absurd (show t.1 6 ≤ nI i from x) (by rw [t4]; exact nI_ge (by omega) (by omega)), fun _ => ⟨vp_in_nI (n := i) (by omega) (by decide), fun v5 f5 => ?_⟩⟩
    have f5 : v5 = nI (g i) := f5.trans ((congrArg (t.2.2.1 7) ci).trans g1)
    subst f5
    refine ⟨fun ne => ?_, fun eq => ⟨vp_in_nI (n := g i) (by omega) (by decide), fun t20 f20 => ?_⟩⟩
    · have ne : g i ≠ e := fun q => ne (by rw [q])
      refine ⟨vp_in_nI (n := g i) (by omega) (by decide), fun v7 f7 => ⟨vp_in_nI (n := s) (by omega) (by decide), fun v8 f8 => ⟨fun nd => ?_, fun ed => ?_⟩⟩⟩
      · rw [cg, D _ g2] at f7
        rw [hw_clamp (by omega), D s hs] at f8
        have nd : hm_dim tm (g i) ≠ hm_dim tm s := fun q => nd (f7.trans (q.trans f8.symm))
        refine ⟨vp_in_nI (n := g i) (by omega) (by decide), fun v10 f10 => ⟨vp_in_nI (n := e) (by omega) (by decide), fun v11 f11 => ?_⟩⟩
        rw [cg, D _ g2] at f10
        rw [hw_clamp (by omega), D e he] at f11
        refine ⟨fun nde => stay _ e1 e2 e3 ?_, fun ede => ⟨vp_in_nI (n := g i) (by omega) (by decide), fun v13 f13 => ⟨fun le => stay _ e1 e2 e3 ?_, fun nle => ⟨vp_in_nI (n := g i) (by omega) (by decide), fun v15 f15 => ?_⟩⟩⟩⟩
        · unfold hwV
          rw [if_neg ne, if_neg nd]
          exact hq_sel0 (fun z => nde (f10.trans (z.1.trans f11.symm)))
        · have f13 : v13 = hm_par tm (g i) := f13.trans ((congrArg (t.2.2.1 5) cg).trans (hP.1 _ g2))
          unfold hwV
          rw [if_neg ne, if_neg nd]
          refine hq_sel0 (fun z => ?_)
          have lt := z.2.2
          rw [← f13] at lt
          exact absurd le (Int32.not_le.mpr lt)
        · have f13 : v13 = hm_par tm (g i) := f13.trans ((congrArg (t.2.2.1 5) cg).trans (hP.1 _ g2))
          have f15 : v15 = hm_par tm (g i) := f15.trans ((congrArg (t.2.2.1 5) cg).trans (hP.1 _ g2))
          have dge : hm_dim tm (g i) = hm_dim tm e := f10.symm.trans (ede.trans f11)
          have lo : hm_low tm (g i) := by
            rw [f13] at nle
            have lt : nI (g i) < hm_par tm (g i) := Int32.not_le.mp nle
            refine ⟨fun z => ?_, lt⟩
            rw [z] at lt
            have := Int32.lt_iff_toInt_lt.mp lt
            rw [nI_toInt (by omega)] at this
            have : ((g i : Nat) : Int) < -1 := this
            omega
          obtain ⟨p, hp, ep⟩ := hm_match_pars hMt (g i) g2 lo
          rw [ep] at f15
          subst f15
          refine ⟨vp_in_nI (n := p) (by omega) (by decide), fun v16 f16 => ⟨vp_in_nI (n := g i) (by omega) (by decide), fun t17 f17 => ?_⟩⟩
          have f16 : v16 = W p := f16.trans (congrArg W (hw_clamp (by omega)))
          rcases hMt (g i) g2 with z | ⟨p2, hp2, ep2, eback, ord⟩
          · rw [z] at ep; exact absurd ep.symm (hs_nI_neg (by omega))
          have : p2 = p := (nI_eq (by omega) (by omega)).mp (ep2.symm.trans ep)
          subst this
          have lt : g i < p2 := (hm_low_iff (by omega) (by omega) ep).mp lo
          have fc : hm_face tm (g i) p2 := ord.elim (fun w => w.2) (fun w => absurd w.1 (by omega))
          have gp : hm_gone tm p2 = 0 := hI.2.2.2.2.2.2.2.2.1 p2 hp (by rw [eback]; exact hs_nI_neg (by omega))
          have stp : hm_step tm (g i) p2 := Or.inr ⟨⟨g3, gp, fc⟩, ep⟩
          obtain ⟨l, l1, l2⟩ := t8 i p2 (by omega) hp stp
          have dp : hm_dim tm p2 = hm_dim tm s := by rw [fc.1, dge, ds]
          have pe : p2 ≠ e := fun q => by
            rw [q] at dp
            exact hw_succ_ne _ (dp.trans ds)
          have vp : v16 = lN (hwT tm c p2 A) := by
            rw [f16, ← l2, h1 l l1, l2, hwV_T pe dp]
          rw [f17, cg, upd4]
          refine put v16 _ e1 e2 e3 ?_
          rw [vp, hwV_A hA he g2 g3 dge ds, hA.1 (g i) p2 g2 hp ⟨g3, ne, lo, dge⟩ ep]
          refine congrArg lN (hq_sum_eq c (fun x hx => ?_))
          show hq_sel (hm_faceT tm x p2 ∧ hm_par tm p2 ≠ nI x) (A x) = hq_sel (x ≠ g i ∧ hm_faceT tm x p2) (A x)
          by_cases q : x ≠ g i ∧ hm_faceT tm x p2
          · rw [hq_sel1 q, hq_sel1 ⟨q.2, fun z => q.1 ((nI_eq (by omega) (by omega)).mp (eback.symm.trans z)).symm⟩]
          · rw [hq_sel0 q, hq_sel0 (fun z => q ⟨fun y => z.2 (by rw [eback, y]), z.1⟩)]
      · rw [cg, D _ g2] at f7
        rw [hw_clamp (by omega), D s hs] at f8
        have ed : hm_dim tm (g i) = hm_dim tm s := f7.symm.trans (ed.trans f8)
        refine hw_waysDown (t := sB t 4 W) (B := fun x => hq_sel (hm_gone tm x = 0) (A x)) (by omega) (hw_hxp hc hP hMt g2) (hF.2 (g i) (by omega)) (fun x hx hb' => ?_) (by omega) ⟨vp_in_nI (n := g i) (by omega) (by decide), fun t19 f19 => ?_⟩
        · obtain ⟨_, xf⟩ := hw_belowF (t := t) hE hb'
          have xc : x < c := by
            have := xf.1
            omega
          show W x = lN (hq_sel (hm_gone tm x = 0) (A x))
          by_cases gx : hm_gone tm x = 0
          · rw [hq_sel1 gx]
            have fb := (hw_below (t := t) hE hM hL hP g2 xc g3 gx).mp hb'
            obtain ⟨l, l1, l2⟩ := t8 i x (by omega) xc (Or.inl fb)
            have dx : hm_dim tm x = hm_dim tm e := hw_cancel (by rw [← fb.1.2.2.1, ed, ds])
            rw [← l2, h1 l l1, l2, hwV_A hA he xc gx dx ds]
          · rw [hq_sel0 gx]
            refine h2 x hx (fun j hj q => gx ?_)
            rw [← q]; exact (t5 j (by omega)).2.2
        · rw [f19, cg, upd4]
          refine put _ _ e1 e2 e3 ?_
          rw [hwV_T ne ed]
          refine congrArg lN ?_
          have cut := hw_cut (c := c) (f := fun x => hq_sel (hf_b (t.2.2.1 5) (t.2.2.2 0) (g i) x = true) (hq_sel (hm_gone tm x = 0) (A x))) (64 - c) (fun x hx _ => hq_sel0 (fun z => by have := (hw_belowF hE z).2.1; omega))
          rw [show c + (64 - c) = 64 by omega] at cut
          refine cut.trans (hq_sum_eq c (fun x hx => ?_))
          show hq_sel (hf_b (t.2.2.1 5) (t.2.2.2 0) (g i) x = true) (hq_sel (hm_gone tm x = 0) (A x)) = hq_sel (hm_faceT tm x (g i) ∧ hm_par tm (g i) ≠ nI x) (A x)
          by_cases gx : hm_gone tm x = 0
          · have w := hw_below (t := t) hE hM hL hP g2 hx g3 gx
            rw [hq_sel1 gx]
            by_cases q : hm_faceT tm x (g i) ∧ hm_par tm (g i) ≠ nI x
            · rw [hq_sel1 q, hq_sel1 (w.mpr q)]
            · rw [hq_sel0 q, hq_sel0 (fun z => q (w.mp z))]
          · rw [hq_sel0 gx, hq_sel0 (p := hm_faceT tm x (g i) ∧ hm_par tm (g i) ≠ nI x) (fun z => gx z.1.1)]
            by_cases q : hf_b (t.2.2.1 5) (t.2.2.2 0) (g i) x = true
            · rw [hq_sel1 q]
            · rw [hq_sel0 q]
    · have eq : g i = e := (nI_eq (by omega) (by omega)).mp eq
      rw [f20, cg, upd4]
      refine put 1 _ e1 e2 e3 ?_
      unfold hwV
      rw [if_pos eq]; rfl
theorem hf6_of {n : Nat} {tx tm : XT} (hJ : hJt n tx tm) : h6_F tx := by
  obtain ⟨z, x, hR, gx, hC, _⟩ := hJ
  obtain ⟨_, _, _, h6, _⟩ := hC
  exact h6.1
theorem hf6_fr {t t' : XT} (f : ht_fr t t') (h : h6_F t) : h6_F t' := hj_F h (f.2.2.1 3 (by decide) (by decide)) (by rw [f.2.2.2])
/-- the class's countWays -/
theorem hpx_countWays {tx tm : XT} {L : Nat → Int32} {c s e n n' K : Nat} {A : Nat → Nat} {Q : Int64 → XT → Prop} (hE : hcE tx L c) (hM : hmE tm L c) (hL : hnL L c) (hP : hPJ tx tm c) (hI : hq_inv tm c n') (hF : h6_F tx) (hg : hNk n tx) (hs : s < c) (he : e < c) (gs : hm_gone tm s = 0) (ds : hm_dim tm s = hm_dim tm e + 1) (hA : hwf tm c e A) (hK : 500 ≤ K)
    (hQ : ∀ t' W h o g, ht_fr tx t' → hcE t' L c → hPJ t' tm c → hTL t' tm c h o g → (∀ x, x < c → hm_gone tm x = 0 → W x = lN (hwV tm c s e A x)) → (∀ x, x < 64 → (x < c → hm_gone tm x ≠ 0) → W x = 0) → Q (W s) (sB t' 4 W)) : wqX1_countWays K tx (nI s) (nI e) Q := by
  obtain ⟨K, rfl⟩ : ∃ K', K = K' + 1 := ⟨K - 1, by omega⟩
  show wbX1_countWays_0 (wpX1_countWays K) K tx (uI (uI (fun _ => 0) 1 (nI s)) 2 (nI e)) (fun _ => 0) Q
  refine hpx_measure hE hM hL hP hI hg (by omega) (fun t' h o g fr hE' hP' hT t2 e2 => ?_)
  have o60 := hT.2.2.1
  rw [e2]
  exact hw_count_go hE' hM hL hP' hI hT (hf6_fr fr hF) hs he gs ds hA (fun W a b => hQ t' W h o g fr hE' hP' hT a b) o 0 K (fun _ => 0) _ _ (by omega) (by omega) (fun j hj => absurd hj (by omega)) (fun x _ _ => rfl) rfl rfl rfl
theorem hwT_crit {tm : XT} {c s : Nat} {A : Nat → Nat} (hc : c ≤ 60) (cs : hm_par tm s = -1) : hwT tm c s A = hq_tot tm c 60 s A := by
  refine hq_sum_eq c (fun x hx => ?_)
  show hq_sel (hm_faceT tm x s ∧ hm_par tm s ≠ nI x) (A x) = hq_sel (x ≠ 60 ∧ hm_faceT tm x s) (A x)
  by_cases q : hm_faceT tm x s
  · rw [hq_sel1 ⟨q, fun z => hs_nI_neg (by omega) (z.symm.trans cs)⟩, hq_sel1 ⟨by omega, q⟩]
  · rw [hq_sel0 (fun z => q z.1), hq_sel0 (fun z => q z.2)]
