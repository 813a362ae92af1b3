/-! ===== auto 0, exactly, on both sides ===== -/
noncomputable def hau (u : XT) (c : Nat) (L : Nat → Int32) (P : Nat → Int32) (f s : Nat) : Nat → Int32 := @ite _ (hm_gone u f = 0 ∧ hm_gone u s = 0 ∧ P f = -1 ∧ P s = -1 ∧ hnF L s f ∧ hm_acyc (sA u 4 (hq_two P f s)) c) (Classical.propDecidable _) (hq_two P f s) P
theorem hau1 {u : XT} {c : Nat} {L P : Nat → Int32} {f s : Nat} (h : hm_gone u f = 0 ∧ hm_gone u s = 0 ∧ P f = -1 ∧ P s = -1 ∧ hnF L s f ∧ hm_acyc (sA u 4 (hq_two P f s)) c) : hau u c L P f s = hq_two P f s := @if_pos _ (Classical.propDecidable _) h _ _ _
theorem hau0 {u : XT} {c : Nat} {L P : Nat → Int32} {f s : Nat} (h : ¬ (hm_gone u f = 0 ∧ hm_gone u s = 0 ∧ P f = -1 ∧ P s = -1 ∧ hnF L s f ∧ hm_acyc (sA u 4 (hq_two P f s)) c)) : hau u c L P f s = P := @if_neg _ (Classical.propDecidable _) h _ _ _
def hag (u : XT) (c : Nat) (P : Nat → Int32) : Prop := hm_match (sA u 4 P) c ∧ hm_acyc (sA u 4 P) c
theorem hau_g {u : XT} {c : Nat} {L P : Nat → Int32} {f s : Nat} (hM : hmE u L c) (hL : hnL L c) (hf : f < c) (hs : s < c) (h : hag u c P) : hag u c (hau u c L P f s) := by
  by_cases z : hm_gone u f = 0 ∧ hm_gone u s = 0 ∧ P f = -1 ∧ P s = -1 ∧ hnF L s f ∧ hm_acyc (sA u 4 (hq_two P f s)) c
  · rw [hau1 z]
    refine ⟨?_, z.2.2.2.2.2⟩
    have fc : hm_face (sA u 4 P) f s := (hf_face (t := sA u 4 P) hM hL hf hs).mpr z.2.2.2.2.1
    exact hq_match_two (t := sA u 4 P) hL.1 hf hs z.2.2.2.2.1.1 fc h.1 z.2.2.1 z.2.2.2.1
  · rw [hau0 z]; exact h
theorem hau_f {u : XT} {c : Nat} {L P : Nat → Int32} {f s : Nat} (h : ¬ P f = -1) : hau u c L P f s = P := hau0 (fun w => h w.2.2.1)
theorem hau_s {u : XT} {c : Nat} {L P : Nat → Int32} {f s : Nat} (h : ¬ P s = -1) : hau u c L P f s = P := hau0 (fun w => h w.2.2.2.1)
noncomputable def hai0 (u : XT) (c : Nat) (L : Nat → Int32) (f : Nat) : Nat → Nat → (Nat → Int32) → (Nat → Int32)
  | 0, _, P => P
  | d + 1, s, P => hai0 u c L f d (s + 1) (hau u c L P f s)
noncomputable def hao0 (u : XT) (c : Nat) (L : Nat → Int32) : Nat → Nat → (Nat → Int32) → (Nat → Int32)
  | 0, _, P => P
  | d + 1, f, P => hao0 u c L d (f + 1) (hai0 u c L f d (f + 1) P)
theorem hai0_f {u : XT} {c : Nat} {L : Nat → Int32} {f : Nat} : ∀ (d s : Nat) (P : Nat → Int32), ¬ (hm_gone u f = 0 ∧ P f = -1) → hai0 u c L f d s P = P := by
  intro d
  induction d with
  | zero => exact fun _ _ _ => rfl
  | succ d ih =>
    intro s P h
    show hai0 u c L f d (s + 1) (hau u c L P f s) = P
    rw [hau0 (fun w => h ⟨w.1, w.2.2.1⟩)]
    exact ih (s + 1) P h
def hsv (u : XT) (P F : Nat → Int32) : XT := sA (sA u 4 P) 7 F
theorem hsv_4 (u : XT) (P F W : Nat → Int32) : sA (hsv u P F) 4 W = hsv u W F := by
  unfold hsv
  rw [hq_com]
theorem hsv_7 (u : XT) (P F W : Nat → Int32) : sA (hsv u P F) 7 W = hsv u P W := by
  unfold hsv
  rw [hm_sAA]
theorem hsv_couples {u : XT} {L : Nat → Int32} {c f s K : Nat} {P F : Nat → Int32} {Q : Int32 → XT → Prop} (hM : hmE u L c) (hL : hnL L c) (hg : hag u c P) (hf : f < c) (hs : s < c) (gf : hm_gone u f = 0) (gs : hm_gone u s = 0) (ef : P f = -1) (es : P s = -1) (fc : hnF L s f) (hK : 30001 ≤ K) (hQ : ∀ r F', Q r (hsv u (hau u c L P f s) F')) : wqX12_couples K (hsv u P F) (nI f) (nI s) Q := by
  have fc' : hm_face (hsv u P F) f s := (hf_face (t := hsv u P F) hM hL hf hs).mpr fc
  refine hmy_couples (t := hsv u P F) hM.1 hL.1 hf hs fc.1 fc' hg.1 ef es hK (fun hA F' => ?_) (fun nA F' => ?_)
  · have q := hQ 1 F'
    rw [hau1 ⟨gf, gs, ef, es, fc, hA⟩] at q
    show Q 1 (sA (sA (hsv u P F) 4 (hq_two P f s)) 7 F')
    rw [hsv_4, hsv_7]; exact q
  · have q := hQ 0 F'
    rw [hau0 (u := u) (L := L) (P := P) (fun w => nA w.2.2.2.2.2)] at q
    rw [hsv_7]; exact q
theorem hmx_auto0_in {u : XT} {L : Nat → Int32} {c f : Nat} {X : Nat → Int32} {lj : Nat → Int64} {Q : XT → Prop} (hM : hmE u L c) (hL : hnL L c) (hf : f < c) (M : Nat) (hMK : 40000 ≤ M)
    (cont : ∀ (K' : Nat) (F li' : Nat → Int32), M ≤ K' → hag u c X → li' 1 = nI f → wpX12_auto0 K' 4 (hsv u X F) li' lj Q) :
    ∀ (d s K : Nat) (P F li : Nat → Int32), s + d = c → f < s → 2 * d + M + 1 ≤ K → hag u c P → hai0 u c L f d s P = X → li 1 = nI f → li 2 = nI s → wpX12_auto0 K 2 (hsv u P F) li lj Q := by
  have hc := hL.1
  intro d
  induction d with
  | zero =>
    intro s K P F li hd hfs hK hg hX e1 e2
    obtain ⟨K, rfl⟩ : ∃ K', K = K' + 1 := ⟨K - 1, by omega⟩
    obtain rfl : s = c := by omega
    have hX : P = X := hX
    subst hX
    show wbX12_auto0_2 (wpX12_auto0 K) K (hsv u P F) li lj Q
    exact ⟨fun _ => cont K F li (by omega) hg e1, fun x => absurd (show u.1 3 ≤ li 2 by rw [hM.1, e2]; exact nI_le (by omega) (by omega)) x⟩
  | succ d ih =>
    intro s K P F li hd hfs hK hg hX e1 e2
    obtain ⟨K, rfl⟩ : ∃ K', K = K' + 2 := ⟨K - 2, by omega⟩
    have hX : hai0 u c L f d (s + 1) (hau u c L P f s) = X := hX
    have nx : ∀ F', wpX12_auto0 (K + 1) 3 (hsv u (hau u c L P f s) F') li lj Q := by
      intro F'
      show wbX12_auto0_3 (wpX12_auto0 K) K (hsv u (hau u c L P f s) F') li lj Q
      intro v e
      exact ih (s + 1) K _ F' _ (by omega) (by omega) (by omega) (hau_g hM hL hf (by omega) hg) hX e1 (by show v = _; rw [e, e2]; exact hs_inc s)
    have same : ¬ (hm_gone u f = 0 ∧ hm_gone u s = 0 ∧ P f = -1 ∧ P s = -1 ∧ hnF L s f ∧ hm_acyc (sA u 4 (hq_two P f s)) c) → wpX12_auto0 (K + 1) 3 (hsv u P F) li lj Q := by
      intro no
      have q := nx F
      rw [hau0 no] at q
      exact q
    show wbX12_auto0_2 (wpX12_auto0 (K + 1)) (K + 1) (hsv u P F) li lj Q
    unfold wbX12_auto0_2
    rw [e1, e2]
    refine ⟨fun x => absurd (show u.1 3 ≤ nI s from x) (by rw [hM.1]; exact nI_ge (by omega) (by omega)), fun _ => ?_⟩
    refine hm_isCritical (t := hsv u P F) (a := nI f) hM.1 hc (by omega) (fun f' hf' ef' cr => ⟨fun z => absurd z (by decide), fun _ => ?_⟩) (fun no => ⟨fun _ => ?_, fun z => absurd rfl z⟩)
    · have ff : f' = f := (nI_eq (by omega) (by omega)).mp ef'.symm
      rw [ff] at cr
      have fi := hf_face (t := hsv u P F) hM hL hf (show s < c by omega)
      refine hm_isFaceThere (t := hsv u P F) (by omega) (by omega) (by omega) (fun fT => ⟨fun z => absurd z (by decide), fun _ => ?_⟩) (fun nF => ⟨fun _ => same (fun w => nF ⟨w.1, w.2.1, fi.mpr w.2.2.2.2.1⟩), fun z => absurd rfl z⟩)
      refine hq_isFree (t := hsv u P F) (by omega) (by omega) (by omega) (fun ef es => ⟨fun z => absurd z (by decide), fun _ => ?_⟩) (fun nf => ⟨fun _ => same (fun w => nf ⟨w.2.2.1, w.2.2.2.1⟩), fun z => absurd rfl z⟩)
      exact hsv_couples hM hL hg hf (by omega) fT.1 fT.2.1 ef es (fi.mp fT.2.2) (by omega) (fun r F' => nx F')
    · have ncr : ¬ (hm_gone u f = 0 ∧ P f = -1) := fun w => no f hf rfl ⟨w.1, w.2⟩
      rw [hau0 (fun w => ncr ⟨w.1, w.2.2.1⟩), hai0_f d (s + 1) P ncr] at hX
      subst hX
      exact cont (K + 1) F li (by omega) hg e1
theorem hmx_auto0_out {u : XT} {L : Nat → Int32} {c : Nat} {X : Nat → Int32} {lj : Nat → Int64} {Q : XT → Prop} (hM : hmE u L c) (hL : hnL L c) (hQ : ∀ F, hag u c X → Q (hsv u X F)) :
    ∀ (d f K : Nat) (P F li : Nat → Int32), f + d = c → 200 * d + 41000 ≤ K → hag u c P → hao0 u c L d f P = X → li 1 = nI f → wpX12_auto0 K 1 (hsv u P F) li lj Q := by
  have hc := hL.1
  intro d
  induction d with
  | zero =>
    intro f K P F li hd hK hg hX e1
    obtain ⟨K, rfl⟩ : ∃ K', K = K' + 1 := ⟨K - 1, by omega⟩
    obtain rfl : f = c := by omega
    have hX : P = X := hX
    subst hX
    show wbX12_auto0_1 (wpX12_auto0 K) K (hsv u P F) li lj Q
    exact ⟨fun _ => hQ F hg, fun x => absurd (show u.1 3 ≤ li 1 by rw [hM.1, e1]; exact nI_le (by omega) (by omega)) x⟩
  | succ d ih =>
    intro f K P F li hd hK hg hX e1
    obtain ⟨K, rfl⟩ : ∃ K', K = K' + 1 := ⟨K - 1, by omega⟩
    have hX : hao0 u c L d (f + 1) (hai0 u c L f d (f + 1) P) = X := hX
    show wbX12_auto0_1 (wpX12_auto0 K) K (hsv u P F) li lj Q
    refine ⟨fun x => absurd (show u.1 3 ≤ li 1 from x) (by rw [hM.1, e1]; exact nI_ge (by omega) (by omega)), fun _ v2 e2 => ?_⟩
    have e2 : v2 = nI (f + 1) := by rw [e2, e1]; exact nI_1 f
    obtain ⟨M, hMd⟩ : ∃ M, M = 200 * d + 41001 := ⟨_, rfl⟩
    refine hmx_auto0_in (X := hai0 u c L f d (f + 1) P) hM hL (by omega) M (by omega) (fun K' F' li' hK' hg' a1 => ?_) d (f + 1) K P F _ (by omega) (by omega) (by omega) hg rfl e1 e2
    obtain ⟨K', rfl⟩ : ∃ K2, K' = K2 + 1 := ⟨K' - 1, by omega⟩
    show wbX12_auto0_4 (wpX12_auto0 K') K' (hsv u (hai0 u c L f d (f + 1) P) F') li' lj Q
    intro v e
    exact ih (f + 1) K' _ F' _ (by omega) (by omega) hg' hX (by show v = _; rw [e, a1]; exact hs_inc f)
theorem hpx_up_in {u t0 : XT} {L : Nat → Int32} {c f : Nat} {X P : Nat → Int32} {lj0 : Nat → Int64} {Q : XT → Prop} (hE0 : hcE t0 L c) (hM : hmE u L c) (hL : hnL L c) (hf : f < c) (M : Nat) (hMK : 300 ≤ M)
    (cont : ∀ (K' : Nat) (t' : XT) (li' : Nat → Int32) (lj' : Nat → Int64), M ≤ K' → hpK t' = hpK t0 → hpX t' c X (fun k => hm_gone u k ≠ 0) → hag u c X → li' 1 = nI f → wpX11_pairUpwards K' 5 t' li' lj' Q) (hg : hag u c P) :
    ∀ (d s K : Nat) (t : XT) (li : Nat → Int32) (lj : Nat → Int64), s + d = c → f < s → 2 * d + M + 1 ≤ K → hpK t = hpK t0 → hpX t c P (fun k => hm_gone u k ≠ 0) → hai0 u c L f d s P = X → li 1 = nI f → li 4 = nI s →
      (∀ k, s ≤ k → (hb (lj 2) k = true ↔ (k < c ∧ hm_gone u f = 0 ∧ P f = -1 ∧ hnF L k f ∧ hm_gone u k = 0 ∧ P k = -1))) → wpX11_pairUpwards K 3 t li lj Q := by
  have hc := hL.1
  intro d
  induction d with
  | zero =>
    intro s K t li lj hd hfs hK hk hX hP e1 e4 hb2
    obtain ⟨K, rfl⟩ : ∃ K', K = K' + 1 := ⟨K - 1, by omega⟩
    obtain rfl : s = c := by omega
    have hP : P = X := hP
    subst hP
    have e44 : t.1 4 = nI s := (congrArg (fun q => q.1.1) hk).trans hE0.1
    show wbX11_pairUpwards_3 (wpX11_pairUpwards K) K t li lj Q
    exact ⟨fun _ => cont K t li lj (by omega) hk hX hg e1, fun x => absurd (show t.1 4 ≤ li 4 by rw [e44, e4]; exact nI_le (by omega) (by omega)) x⟩
  | succ d ih =>
    intro s K t li lj hd hfs hK hk hX hP e1 e4 hb2
    obtain ⟨K, rfl⟩ : ∃ K', K = K' + 2 := ⟨K - 2, by omega⟩
    have hP : hai0 u c L f d (s + 1) (hau u c L P f s) = X := hP
    have e44 : t.1 4 = nI c := (congrArg (fun q => q.1.1) hk).trans hE0.1
    have hE := hcE_K hk hE0
    have o64 : s < 64 := by omega
    have nx : hau u c L P f s = P → wpX11_pairUpwards (K + 1) 4 t li lj Q := by
      intro q
      rw [q] at hP
      show wbX11_pairUpwards_4 (wpX11_pairUpwards K) K t li lj Q
      intro v e
      exact ih (s + 1) K t _ lj (by omega) (by omega) (by omega) hk hX hP e1 (by show v = _; rw [e, e4]; exact hs_inc s) (fun k a => hb2 k (by omega))
    show wbX11_pairUpwards_3 (wpX11_pairUpwards (K + 1)) (K + 1) t li lj Q
    unfold wbX11_pairUpwards_3
    rw [e1, e4]
    refine ⟨fun x => absurd (show t.1 4 ≤ nI s from x) (by rw [e44]; exact nI_ge (by omega) (by omega)), fun _ v9 e9 => ⟨fun z => ?_, fun _ => ?_⟩⟩
    · -- nothing is above
      rw [e9] at z
      have no : ∀ k, s ≤ k → k < c → hau u c L P f k = P := by
        intro k a b
        refine hau0 (fun w => ?_)
        have := (hb2 k a).mpr ⟨b, w.1, w.2.2.1, w.2.2.2.2.1, w.2.1, w.2.2.2.1⟩
        rw [hb_z z k] at this
        exact absurd this (by decide)
      have all : ∀ (e k : Nat), s ≤ k → k + e = c → hai0 u c L f e k P = P := by
        intro e
        induction e with
        | zero => exact fun _ _ _ => rfl
        | succ e ih2 =>
          intro k a b
          show hai0 u c L f e (k + 1) (hau u c L P f k) = P
          rw [no k a (by omega)]
          exact ih2 (k + 1) (by omega) (by omega)
      have hP2 : P = X := by
        rw [no s (Nat.le_refl s) (by omega), all d (s + 1) (by omega) (by omega)] at hP
        exact hP
      subst hP2
      exact cont (K + 1) t li lj (by omega) hk hX hg e1
    · refine hw_isIn o64 (by omega) (fun y => ⟨fun z => absurd z (by decide), fun _ => ?_⟩) (fun y => ⟨fun _ => nx (hau0 (fun w => ?_)), fun z => absurd rfl z⟩)
      · obtain ⟨_, gf, ef, fF, gs, es⟩ := (hb2 s (Nat.le_refl s)).mp y
        refine hst_acyc (tm := sA u 4 P) hE hX hM hL hg.1 hg.2 hf (show s < c by omega) fF.1 ef es (by omega) (fun hA => ⟨fun z => absurd z (by decide), fun _ => ?_⟩) (fun nA => ⟨fun _ => nx (hau0 (fun w => nA w.2.2.2.2.2)), fun z => absurd rfl z⟩)
        have cond : hm_gone u f = 0 ∧ hm_gone u s = 0 ∧ P f = -1 ∧ P s = -1 ∧ hnF L s f ∧ hm_acyc (sA u 4 (hq_two P f s)) c := ⟨gf, gs, ef, es, fF, hA⟩
        refine hpx_unite hX hc fF.1 (by omega) ef es (by omega) (fun t15 k15 x15 => ?_)
        have nf : ¬ (hm_gone u f = 0 ∧ hq_two P f s f = -1) := by
          intro w
          have e : hq_two P f s f = nI s := by
            show (if f = s then nI f else if f = f then nI s else P f) = nI s
            rw [if_neg (by have := fF.1; omega), if_pos rfl]
          exact hs_nI_neg (by omega) (e.symm.trans w.2)
        have hg2 := hau_g (s := s) hM hL hf (by omega) hg
        rw [hau1 cond] at hP hg2
        rw [hai0_f d (s + 1) _ nf] at hP
        subst hP
        show wbX11_pairUpwards_4 (wpX11_pairUpwards K) K t15 li (uI lj 2 0) Q
        intro v e
        obtain ⟨K, rfl⟩ : ∃ K', K = K' + 1 := ⟨K - 1, by omega⟩
        show wbX11_pairUpwards_3 (wpX11_pairUpwards K) K t15 (uI li 4 v) (uI lj 2 0) Q
        have five : wpX11_pairUpwards K 5 t15 (uI li 4 v) (uI lj 2 0) Q := cont K t15 _ _ (by omega) (k15.trans hk) x15 hg2 e1
        exact ⟨fun _ => five, fun _ v9 e9 => ⟨fun _ => five, fun z => absurd (e9.trans (show lg_cmp (0 : Int64) 0 = 0 by decide)) z⟩⟩
      · have := (hb2 s (Nat.le_refl s)).mpr ⟨by omega, w.1, w.2.2.1, w.2.2.2.2.1, w.2.1, w.2.2.2.1⟩
        rw [y] at this
        exact absurd this (by decide)
