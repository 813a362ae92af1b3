/-! ===== cancel answers alike ===== -/
theorem hpt_get2 {tm : XT} {c s e n' x : Nat} {A : Nat → Nat} (hc : c ≤ 60) (hI : hq_inv tm c n') (hA : hwf tm c e A) (hs : s < c) (cs : hm_crit tm s) (ce : hm_crit tm e) (ds : hm_dim tm s = hm_dim tm e + 1) (hx : x < hwT tm c s A) : ∃ l, hpt tm c e A l s x ∧ 1 + l.length ≤ 60 ∧ (s :: l).Nodup ∧ ∀ y, y ∈ s :: l → y < c := by
  obtain ⟨δ, d1, d2⟩ := hI.2.2.2.2.1
  obtain ⟨l, h1, h2, h3⟩ := hpt_ex hc hI hA ce d2 60 60 (Nat.le_refl _) s x hs (fun f hf _ _ lo => d1 f hf lo) hx
  have ns : s ∉ l := by
    intro z
    rcases (h3 s z).2 with w | w | ⟨f, f1, f2, _, f4⟩
    · rw [w] at ds; exact hw_succ_ne _ ds
    · exact w.1.1 cs.2
    · rcases hI.2.2.2.1 f f1 with y | ⟨p, hp, ep, eb, _⟩
      · exact f2.1 y
      · have : p = s := (nI_eq (by omega) (by omega)).mp (ep.symm.trans f4)
        rw [this] at eb
        exact hs_nI_neg (by omega) (eb.symm.trans cs.2)
  have lt : ∀ y, y ∈ s :: l → y < c := fun y hy => (List.mem_cons.mp hy).elim (fun w => by rw [w]; exact hs) (fun w => (h3 y w).1)
  have nd := List.nodup_cons.mpr ⟨ns, h2⟩
  have := hpt_len (c := c) nd lt
  have e : (s :: l).length = l.length + 1 := rfl
  exact ⟨l, h1, by omega, nd, lt⟩
theorem hpr_rw {R : Nat → Int32} {s : Nat} {l : List Nat} : hrw (hpr (upd R 0 (nI s)) 1 l) 0 (s :: l) := by
  intro j hj
  cases j with
  | zero => rw [hpr_lo _ _ _ _ (by omega)]; rfl
  | succ j =>
    have hj : j + 1 < l.length + 1 := hj
    have a := hpr_at l (upd R 0 (nI s)) 1 j (by omega)
    rw [show 0 + (j + 1) = 1 + j by omega, a]
    rfl
theorem hhX_ft {t t' : XT} {c n : Nat} {A : Nat → Nat → Int32} {B : Nat → Nat → Prop} (f : ht_fr t t') (h : hhX t c n A B) : hhX t' c n A B := hhX_fr h (f.1 8 (by decide) (by decide)) (f.1 9 (by decide) (by decide)) (f.2.2.1 9 (by decide) (by decide)) (by rw [f.2.2.2])
theorem hpx_cancel0 {K : Nat} {t : XT} {a b : Int32} {Q : Int32 → XT → Prop} (h : wbX11_cancel_0 (wpX11_cancel K) K t (uI (uI (fun _ => 0) 1 a) 2 b) (fun _ => 0) Q) : wqX11_cancel (K + 1) t a b Q := h
theorem hmx_cancel0 {K : Nat} {t : XT} {a b : Int32} {Q : Int32 → XT → Prop} (h : wbX12_cancel_0 (wpX12_cancel K) K t (uI (uI (fun _ => 0) 1 a) 2 b) (fun _ => 0) Q) : wqX12_cancel (K + 1) t a b Q := h
theorem hmx_cl0 {K : Nat} {u : XT} {li : Nat → Int32} {lj : Nat → Int64} {Q : Int32 → XT → Prop} (h : wpX12_cancel K 1 (sA u 4 (u.2.2.1 4)) li lj Q) : wpX12_cancel K 1 u li lj Q := by
  rw [hm_sA0] at h
  exact h
theorem hac_cancel (n : Nat) (tx tm : XT) (p1 p2 : Int32) (hJ : hAl (n + 1) tx tm) (g : hNk (n + 1) tx) : ∃ k, wqX11_cancel k tx p1 p2 (fun r1 tx' => ∃ k', wqX12_cancel k' tm p1 p2 (fun r2 tm' => r1 = r2 ∧ hAl n tx' tm')) := by
  obtain ⟨hJ', c, L, hL, hE, hM, hP, hH, hK⟩ := hJ
  have hc := hL.1
  obtain ⟨n', hI⟩ := hal_inv hJ' hM hc
  have hF := hf6_of hJ'
  have hn16 := hI.2.2.2.2.2.1
  have h4 := hI.2.2.2.2.2.2.1
  have ho := hI.2.2.1
  obtain ⟨nh, e4, hHx⟩ := hH
  have nhn : nh = n' := (nI_eq (by have := hHx.1; omega) (by omega)).mp (e4.symm.trans h4)
  subst nhn
  obtain ⟨KA, hKA⟩ : ∃ KA, KA = 300000 := ⟨_, rfl⟩
  refine hfi_cancel (A := KA + 1) (B := KA + 1) hJ' hL hE hM ?_
  refine hpx_cancel0 (hpx_areEnds hE hM hP hc (by omega) (fun s e hs he ea eb q => ⟨fun _ => ?_, fun z => absurd z (by decide)⟩) (fun no => ⟨fun z => absurd rfl z, fun _ => ?_⟩))
  · have ea : p1 = nI s := ea
    have eb : p2 = nI e := eb
    subst ea
    subst eb
    obtain ⟨W0, A0, hA0⟩ := hfull_ex hM.1 hc hI.2.2.2.1 hI.2.2.2.2.1 he
    have hA := hA0.2.2
    have bnd : ∀ y, y < c → A0 y < 2 ^ 62 := by
      intro y hy
      have h1 := hq_sum_at (A := A0) (g := y) c hy
      have h2 := hA0.2.1
      have h3 : (2 : Nat) ^ 60 < 2 ^ 62 := by decide
      omega
    have se : s ≠ e := fun z => by rw [z] at q; exact hw_succ_ne _ q.2.2
    have ref : ∀ {r1 : Int32} {tx' : XT}, (∀ (W G : Nat → Int64), (lg_cmp (lN (hwT tm c s A0)) 1 = 0 → wqX12_laysPath (KA) (hq_w tm W G) (nI s) (nI e) 0 (fun _ t6 => wqX12_remembers KA t6 (fun t7 => wpX12_cancel KA 1 t7 (uI (uI (uI (fun _ => 0) 1 (nI s)) 2 (nI e)) 3 0) (fun _ => 0) (fun r2 tm' => r1 = r2 ∧ hPJ tx' tm' c ∧ hHJ tx' tm' c ∧ hKJ tx' tm' c)))) ∧ (¬ lg_cmp (lN (hwT tm c s A0)) 1 = 0 → r1 = -2 ∧ hPJ tx' (hq_w tm W G) c ∧ hHJ tx' (hq_w tm W G) c ∧ hKJ tx' (hq_w tm W G) c)) → wqX12_cancel (KA + 1) tm (nI s) (nI e) (fun r2 tm' => r1 = r2 ∧ hPJ tx' tm' c ∧ hHJ tx' tm' c ∧ hKJ tx' tm' c) := by
      intro r1 tx' hr
      refine hmx_cancel0 (hmx_areEnds hM.1 hc (by omega) (fun s' e' _ _ _ _ _ => ⟨fun _ => ?_, fun z => absurd z (by decide)⟩) (fun no => absurd q (no s e hs he rfl rfl)))
      refine hq_waysFrom2 hM.1 hc hI.2.2.2.1 hI.2.2.2.2.1 hs he (by omega) (fun W G A1 hA1 v4 e4 => ?_)
      have same := hwf_eq hc hI.2.2.2.1 hI.2.2.2.2.1 hA hA1.2.2
      have tot : hq_tot tm c 60 s A1 = hwT tm c s A0 := by
        rw [hwT_crit hc q.1.2]
        refine hq_sum_eq c (fun x hx => ?_)
        show hq_sel (x ≠ 60 ∧ hm_faceT tm x s) (A1 x) = hq_sel (x ≠ 60 ∧ hm_faceT tm x s) (A0 x)
        rw [same x hx]
      rw [tot] at e4
      exact ⟨fun z => (hr W G).1 (e4.symm.trans z), fun z => (hr W G).2 (fun y => z (e4.trans y))⟩
    refine hpx_countWays hE hM hL hP hI hF g hs he q.1.1 q.2.2 hA (by omega) (fun t' W h o g' fr hE' hP' hT w1 w2 v4 e4 => ?_)
    have e4 : v4 = lg_cmp (W s) 1 := e4
    rw [w1 s hs q.1.1, hwV_T se rfl] at e4
    have hHx' := hhX_ft fr hHx
    refine ⟨fun one => ?_, fun none => ?_⟩
    · have one : lg_cmp (lN (hwT tm c s A0)) 1 = 0 := e4.symm.trans one
      have pos : 0 < hwT tm c s A0 := by
        have z := (hs_cmp0 _ _).mp one
        refine Nat.pos_of_ne_zero (fun y => ?_)
        rw [y] at z
        exact absurd z (by decide)
      obtain ⟨l, hp, hlen, nd, hlt⟩ := hpt_get2 hc hI hA hs q.1 q.2.1 q.2.2 pos
      have hcmL := hcm_of l.length l s 0 (Nat.le_refl _) hp hs
      have len1 : (s :: l).length = l.length + 1 := rfl
      refine wmX3_save_c4 (Nat.le_refl _) (fun t5 y => ?_) (hsv4w (hhx_save (t := sB t' 4 W) (Q := fun t5 => hpS t5 = hpS (sB t' 4 W) ∧ t5.2.1 6 = t'.2.1 6 ∧ t5.2.2.1 10 = t'.2.2.1 10 ∧ hhX t5 c (if nh = 16 then 16 else nh + 1) (hhP nh (hmA tm) (hm_par tm)) (hhP nh (hmB tm) (fun k => hm_gone tm k ≠ 0))) hHx' hP' hc (by omega) (fun t5 s5 j5 r5 h5 => ⟨s5, j5, r5, h5⟩)))
      obtain ⟨⟨s5, j5, r5, h5⟩, w5⟩ := y
      have hE5 : hcE t5 L c := hcE_S (t := sB t' 4 W) s5 hE'
      have hP5 : hPJ t5 tm c := hpX_S (t := sB t' 4 W) s5 hP'
      have hF5 : h6_F t5 := hj_F (hf6_fr fr hF) (congrArg (fun q => q.2.1.2.1) s5) (congrArg (fun q => q.2.2.1) s5)
      have e5 : t5 = sB t5 4 W := by
        have w5 : t5.2.2.2 4 = W := w5
        rw [← w5, hq_sB0]
      rw [e5]
      refine hpx_trace (x := 0) hE5 hM hL hP5 hI hF5 hs he q.1.1 q.2.2 hA bnd w1 w2 (by decide) hp hlen (by omega) (fun z => ?_)
      refine hpx_dv (G := fun k => hm_gone tm k ≠ 0) (M := 20000) hc (n := 1 + l.length) hlen l.length l 1 _ (hm_par tm) _ _ (Nat.le_refl _) rfl (hrw_tl hpr_rw) (fun y hy => hlt y (List.mem_cons_of_mem s hy)) (fun y hy => hpM_or (hpM_of hI.2.2.2.1) hy) (by omega) rfl rfl hP5 rfl (fun K' li' u a b d k1 x1 r1 => ?_)
      have dv : hdv (hm_par tm) l = hcl (hm_par tm) (s :: l) := hdv_cl hc q.2.1.2 l.length l s 0 (hm_par tm) (Nat.le_refl _) hp nd (fun y _ => rfl) q.1.2
      rw [dv] at x1
      refine hpx_tn (M := 10000) hc ho (n := 1 + l.length) hlen (s :: l).length (s :: l) 0 _ _ _ _ (Nat.le_refl _) hcmL nd (by omega) hpr_rw (fun y hy => (hcl_at (s :: l) (hm_par tm) y).1 hy) (by omega) b d x1 r1 (fun K2 u2 m2 k2 x2 => hpx_criticalOnes x2 hc (by omega) ?_)
      have ks : hpK u2 = hpK t5 := k2.trans k1
      have h6 := hhX_fr h5 (congrArg (fun q => q.1.2.1) ks) (congrArg (fun q => q.1.2.2.1) ks) (congrArg (fun q => q.2.1.2.2.2.1) ks) (congrArg (fun q => q.2.2.2.2.2) ks)
      have j6 : u2.2.1 6 = tx.2.1 6 := (congrArg (fun q => q.1.2.2.2) ks).trans (j5.trans (by rw [fr.2.1]))
      have r6 : u2.2.2.1 10 = tx.2.2.1 10 := (congrArg (fun q => q.2.1.2.2.2.2) ks).trans (r5.trans (fr.2.2.1 10 (by decide) (by decide)))
      refine ref (fun Wm Gm => ⟨fun _ => ?_, fun no => absurd one no⟩)
      refine hmx_laysPath (t := hq_w tm Wm Gm) (x := 0) (l := l) (A := A0) hM.1 hc hI.2.2.2.1 hI.2.2.2.2.1 hs he q.1.2 q.2.1.2 q.2.2 (by decide) hA (by omega) (fun W2 G2 _ _ _ => ?_) (fun _ => ⟨hpt_w l.length l s 0 (Nat.le_refl _) hp, by omega⟩) (fun W2 G2 no => absurd pos no)
      refine hmx_remembers (n := nh) h4 hn16 (by omega) (fun R hR => ?_)
      refine hmx_cl0 ?_
      refine hmx_cl (n := 1 + l.length) (M := 10000) rfl (by omega) rfl (s :: l) 0 _ (hm_par tm) _ (by omega) hpr_rw (fun y hy => by have := hlt y hy; omega) (by omega) rfl (fun K3 li3 m3 z3 => ?_)
      refine hmx_tn (tm := tm) (c := c) (n := 1 + l.length) (M := 1000) hc ho rfl (by omega) rfl (s :: l).length (s :: l) 0 _ _ _ (Nat.le_refl _) hcmL (by omega) hpr_rw (by omega) z3 (fun K4 m4 => ?_)
      refine hmx_crit hM.1 hc (by omega) ?_
      exact ⟨rfl, x2, hHJ_push hn16 hc h6 hR rfl rfl, hKJ_fr hK j6 r6 rfl rfl⟩
    · have none : ¬ lg_cmp (lN (hwT tm c s A0)) 1 = 0 := fun z => none (e4.trans z)
      exact ref (fun Wm Gm => ⟨fun z => absurd z none, fun _ => ⟨rfl, hP', ⟨nh, h4, hHx'⟩, hKJ_fr hK (by show t'.2.1 6 = _; rw [fr.2.1]) (fr.2.2.1 10 (by decide) (by decide)) rfl rfl⟩⟩)
  · refine hmx_cancel0 ?_
    exact hmx_areEnds hM.1 hc (by omega) (fun s e hs he ea eb w => absurd w (no s e hs he ea eb)) (fun _ => ⟨fun z => absurd rfl z, fun _ => ⟨rfl, hP, ⟨nh, h4, hHx⟩, hK⟩⟩)
