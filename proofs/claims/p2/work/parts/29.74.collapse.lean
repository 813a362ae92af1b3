/-! ===== collapse answers alike ===== -/
theorem hct_n {p : Nat → Prop} : ∀ c, hm_cnt (fun k => hm_ind (p k)) c = nI (hst_n p c) := by
  intro c
  induction c with
  | zero => rfl
  | succ c ih =>
    show hm_cnt (fun k => hm_ind (p k)) c + hm_ind (p c) = nI (hst_n p c + hq_sel (p c) 1)
    rw [ih]
    by_cases z : p c
    · rw [hm_ind1 z, hq_sel1 z]; exact nI_1 _
    · rw [hm_ind0 z, hq_sel0 z]; exact Int32.add_zero _
theorem hct_0 {p : Nat → Prop} {c : Nat} (hc : c ≤ 60) : hm_cnt (fun k => hm_ind (p k)) c = 0 ↔ ∀ k, k < c → ¬ p k := by
  refine ⟨fun h => ?_, fun h => hq_cnt0 c (fun k hk => hm_ind0 (h k hk))⟩
  have l := hst_le p c
  rw [hct_n] at h
  have z := (nI_eq (b := 0) (by omega) (by omega)).mp h
  exact hst_0 z
/-- cofaces that are THERE, in the class's bits -/
theorem hpx_over {t : XT} {L P : Nat → Int32} {G : Nat → Prop} {c f : Nat} (hE : hcE t L c) (hX : hpX t c P G) : ∀ k, hb (t.2.2.2 1 f &&& t.2.1 0) k = true ↔ (k < c ∧ (hnF L k f ∧ ¬ G k)) := by
  intro k
  rw [hb_and, Bool.and_eq_true, hE.2.2.2.2.2.1 f k, hX.2.2.1 k]
  exact ⟨fun w => ⟨w.1.1, w.1.2, w.2.2⟩, fun w => ⟨⟨w.1, w.2.1⟩, w.1, w.2.2⟩⟩
theorem hmx_faceT {t : XT} {L : Nat → Int32} {c f k : Nat} (hM : hmE t L c) (hL : hnL L c) (hf : f < c) (hk : k < c) (gf : hm_gone t f = 0) : hm_faceT t f k ↔ (hnF L k f ∧ ¬ hm_gone t k ≠ 0) := by
  unfold hm_faceT
  rw [hf_face hM hL hf hk]
  exact ⟨fun w => ⟨w.2.2, fun z => z w.2.1⟩, fun w => ⟨gf, Classical.byContradiction w.2, w.1⟩⟩
theorem hmx_over_go {t : XT} {m f s : Nat} {lj : Nat → Int64} {Q : Int32 → XT → Prop} (hm60 : m ≤ 60) (hf : f < m) (hs : s < m) (hF : hm_faceT t f s) (h : ∀ s, s < m → hm_faceT t f s → (∀ r, r < s → ¬ hm_faceT t f r) → Q (nI s) t) :
    ∀ (d c K : Nat) (li : Nat → Int32), c + d = s → d + 10 ≤ K → li 1 = nI f → li 2 = nI c → (∀ r, r < c → ¬ hm_faceT t f r) → wpX12_overOf K 1 t li lj Q := by
  intro d
  induction d with
  | zero =>
    intro c K li hd hK e1 e2 hz
    obtain ⟨K, rfl⟩ : ∃ K', K = K' + 1 := ⟨K - 1, by omega⟩
    obtain rfl : c = s := by omega
    show wbX12_overOf_1 (wpX12_overOf K) K t li lj Q
    unfold wbX12_overOf_1
    rw [e1, e2]
    exact hm_isFaceThere (by omega) (by omega) (by omega) (fun _ => ⟨fun _ => h c hs hF hz, fun x => absurd x (by decide)⟩) (fun no => absurd hF no)
  | succ d ih =>
    intro c K li hd hK e1 e2 hz
    obtain ⟨K, rfl⟩ : ∃ K', K = K' + 1 := ⟨K - 1, by omega⟩
    show wbX12_overOf_1 (wpX12_overOf K) K t li lj Q
    unfold wbX12_overOf_1
    rw [e1, e2]
    refine hm_isFaceThere (by omega) (by omega) (by omega) (fun fc => ⟨fun _ => h c (by omega) fc hz, fun x => absurd x (by decide)⟩) (fun no => ⟨fun x => absurd rfl x, fun _ v e => ?_⟩)
    refine ih (c + 1) K (uI li 2 v) (by omega) (by omega) e1 (e.trans (hs_inc c)) (fun r hr => ?_)
    by_cases x : r = c
    · rw [x]; exact no
    · exact hz r (by omega)
theorem hmx_overOf {t : XT} {m f K : Nat} {Q : Int32 → XT → Prop} (hm60 : m ≤ 60) (hf : f < m) (hF : ∃ s, s < m ∧ hm_faceT t f s) (hK : 80 ≤ K) (h : ∀ s, s < m → hm_faceT t f s → (∀ r, r < s → ¬ hm_faceT t f r) → Q (nI s) t) : wqX12_overOf K t (nI f) Q := by
  obtain ⟨K, rfl⟩ : ∃ K', K = K' + 1 := ⟨K - 1, by omega⟩
  obtain ⟨s, hs, fc⟩ := hF
  exact hmx_over_go (lj := fun _ => 0) hm60 hf hs fc h s 0 K (uI (uI (fun _ => 0) 1 (nI f)) 2 0) (by omega) (by omega) rfl rfl (fun r hr => absurd hr (by omega))
/-- FREE: f is THERE, s the one over it, nothing over s -/
def hfr (t : XT) (c f s : Nat) : Prop := hm_cnt (fun k => hm_ind (hm_faceT t f k)) c = 1 ∧ hm_faceT t f s ∧ (∀ r, r < s → ¬ hm_faceT t f r) ∧ ∀ k, k < c → ¬ hm_faceT t s k
theorem hmx_isFreeFace {t : XT} {m K f : Nat} {Q : Int32 → XT → Prop} (hm : t.1 3 = nI m) (hm60 : m ≤ 60) (hf : f < m) (hK : 90 ≤ K) (h1 : ∀ s, s < m → hfr t m f s → Q 1 t) (h0 : (∀ s, s < m → ¬ hfr t m f s) → Q 0 t) : wqX12_isFreeFace K t (nI f) Q := by
  obtain ⟨K, rfl⟩ : ∃ K', K = K' + 2 := ⟨K - 2, by omega⟩
  have out : (∀ s, s < m → ¬ hfr t m f s) → wpX12_isFreeFace (K + 1) 1 t (uI (fun _ => 0) 1 (nI f)) (fun _ => 0) Q := h0
  show wbX12_isFreeFace_0 (wpX12_isFreeFace (K + 1)) (K + 1) t (uI (fun _ => 0) 1 (nI f)) (fun _ => 0) Q
  refine hm_isThere (a := nI f) hm hm60 (by omega) (fun f' hf' ea _ => ⟨fun z => absurd z (by decide), fun _ => ?_⟩) (fun no => ⟨fun _ => out (fun s _ w => no f hf rfl w.2.1.1), fun z => absurd rfl z⟩)
  refine hm_facesOver hm hm60 (by omega) (by omega) ?_
  refine ⟨fun c => ?_, fun c => out (fun s _ w => c w.1)⟩
  have ex := hq_some c
  refine hmx_overOf hm60 hf ex (by omega) (fun s hs fs ls => ?_)
  refine hm_facesOver hm hm60 (by omega) (by omega) ?_
  refine ⟨fun z => h0 (fun s' hs' w => ?_), fun z => h1 s hs ⟨c, fs, ls, (hct_0 hm60).mp z⟩⟩
  have e : s' = s := by
    rcases Nat.lt_trichotomy s' s with q | q | q
    · exact absurd w.2.1 (ls s' q)
    · exact q
    · exact absurd fs (w.2.2.1 s q)
  rw [e] at w
  exact z ((hct_0 hm60).mpr w.2.2.2)
theorem hpx_isFree {tx tm : XT} {L : Nat → Int32} {c f K : Nat} {Q : Int32 → XT → Prop} (hE : hcE tx L c) (hP : hPJ tx tm c) (hM : hmE tm L c) (hL : hnL L c) (hf : f < c) (gf : hm_gone tm f = 0) (hK : 5 ≤ K) (h1 : ∀ s, s < c → hfr tm c f s → Q 1 tx) (h0 : (∀ s, s < c → ¬ hfr tm c f s) → Q 0 tx) : wqX11_isFree K tx (nI f) Q := by
  have hc := hL.1
  obtain ⟨K, rfl⟩ : ∃ K', K = K' + 1 := ⟨K - 1, by omega⟩
  have cf : (nI f).toNatClampNeg = f := nI_clamp (by omega)
  show wbX11_isFree_0 (wpX11_isFree K) K tx (uI (fun _ => 0) 1 (nI f)) (fun _ => 0) Q
  refine ⟨vp_in_nI (n := f) (by omega) (by decide), fun v1 e1 v2 e2 => hw_bc64 (by omega) ?_⟩
  have e1 : v1 = tx.2.2.2 1 f := e1.trans (congrArg (tx.2.2.2 1) cf)
  rw [e1] at e2
  have b2 : ∀ k, hb v2 k = true ↔ (k < c ∧ hm_faceT tm f k) := fun k => by
    rw [e2, hpx_over hE hP k]; exact and_congr_right (fun hk => (hmx_faceT hM hL hf hk gf).symm)
  have cnt := hct b2 (by omega)
  rw [cnt]
  refine ⟨fun one => ?_, fun none => h0 (fun s _ w => none w.1)⟩
  obtain ⟨s0, hs0, fs0⟩ := hq_some one
  rcases @hb_ne v2 with z | ⟨s, s64, sb, sl⟩
  · exact absurd ((b2 s0).mpr ⟨hs0, fs0⟩) (by rw [z, hb_0]; decide)
  have hs := ((b2 s).mp sb).1
  have fs := ((b2 s).mp sb).2
  have ls : ∀ r, r < s → ¬ hm_faceT tm f r := fun r hr w => absurd ((b2 r).mpr ⟨by omega, w⟩) (by rw [sl r hr]; decide)
  have cs : (nI s).toNatClampNeg = s := nI_clamp (by omega)
  refine hw_lowest s64 sb sl (by omega) ⟨vp_in_nI (n := s) s64 (by decide), fun v6 e6 v7 e7 v8 e8 => ?_⟩
  rw [cs] at e6
  rw [e6] at e7
  have b7 : ∀ k, hb v7 k = true ↔ (k < c ∧ hm_faceT tm s k) := fun k => by
    rw [e7, hpx_over hE hP k]; exact and_congr_right (fun hk => (hmx_faceT hM hL hs hk fs.2.1).symm)
  refine ⟨fun nz => h0 (fun s' hs' w => ?_), fun z => h1 s hs ⟨one, fs, ls, fun k hk w => ?_⟩⟩
  · have e : s' = s := by
      rcases Nat.lt_trichotomy s' s with q | q | q
      · exact absurd w.2.1 (ls s' q)
      · exact q
      · exact absurd fs (w.2.2.1 s q)
    rw [e] at w
    rcases @hb_ne v7 with z | ⟨k, _, kb, _⟩
    · exact nz (by rw [e8, z]; decide)
    · exact w.2.2.2 k ((b7 k).mp kb).1 ((b7 k).mp kb).2
  · rw [e8] at z
    exact absurd ((b7 k).mpr ⟨hk, w⟩) (by rw [hb_z z k]; decide)
theorem hpx_collapse0 {K : Nat} {t : XT} {a : Int32} {Q : Int32 → XT → Prop} (h : wbX11_collapse_0 (wpX11_collapse K) K t (uI (fun _ => 0) 1 a) (fun _ => 0) Q) : wqX11_collapse (K + 1) t a Q := h
theorem hmx_collapse0 {K : Nat} {t : XT} {a : Int32} {Q : Int32 → XT → Prop} (h : wbX12_collapse_0 (wpX12_collapse K) K t (uI (fun _ => 0) 1 a) (fun _ => 0) Q) : wqX12_collapse (K + 1) t a Q := h
theorem hac_collapse (n : Nat) (tx tm : XT) (p1 : Int32) (hJ : hAl (n + 1) tx tm) : ∃ k, wqX11_collapse k tx p1 (fun r1 tx' => ∃ k', wqX12_collapse k' tm p1 (fun r2 tm' => r1 = r2 ∧ hAl n tx' tm')) := by
  obtain ⟨hJ, c, L, hL, hE, hM, hP, hH, hK⟩ := hJ
  have hc := hL.1
  obtain ⟨n', hI⟩ := hal_inv hJ hM hc
  have hI0 := hI
  obtain ⟨_, _, _, hMt, hA, hn16, h4, _, _⟩ := hI
  obtain ⟨nh, e4, hHx⟩ := hH
  have nhn : nh = n' := (nI_eq (by have := hHx.1; omega) (by omega)).mp (e4.symm.trans h4)
  subst nhn
  obtain ⟨KA, hKA⟩ : ∃ KA, KA = 300 := ⟨_, rfl⟩
  obtain ⟨KB, hKB⟩ : ∃ KB, KB = 5000 := ⟨_, rfl⟩
  refine hfi_collapse (A := KA + 1) (B := KB + 1) hJ hL hE hM ?_
  have og : ∀ j, ¬ hm_gone tm j ≠ 0 → hm_gone tm j = 0 := fun j w => Classical.byContradiction w
  refine hpx_collapse0 ?_
  refine hpx_isThere hE.1 hP hc (by omega) (fun f hf ea gf => ⟨fun _ => ?_, fun z => absurd z (by decide)⟩) (fun no => ⟨fun z => absurd rfl z, fun _ => ?_⟩)
  · have ea : p1 = nI f := ea
    subst ea
    have cf : (nI f).toNatClampNeg = f := nI_clamp (by omega)
    have gf0 := og f gf
    -- the reference, up to isFreeFace
    have ref : ∀ (Q : Int32 → XT → Prop), ((∀ s, s < c → ¬ hfr tm c f s) → Q (-2) tm) → (∀ s, s < c → hfr tm c f s → wqX12_remembers KB tm (fun t5 => wqX12_overOf KB t5 (nI f) (fun r_6 t_6 => wqX12_frees KB t_6 (nI f) (fun t_7 => wqX12_frees KB t_7 r_6 (fun t_8 => vp_in (nI f) 60 ∧ (∀ t_9 : XT, t_9 = sA t_8 5 (upd (t_8.2.2.1 5) (nI f).toNatClampNeg (vp_nar .boolean 1)) → vp_in r_6 60 ∧ (∀ t_10 : XT, t_10 = sA t_9 5 (upd (t_9.2.2.1 5) r_6.toNatClampNeg (vp_nar .boolean 1)) → wqX12_thereMany KB t_10 (fun r_11 t_11 => Q r_11 t_11)))))))) → wqX12_collapse (KB + 1) tm (nI f) Q := by
      intro Q q0 q1
      refine hmx_collapse0 ?_
      refine hm_isThere (a := nI f) hM.1 hc (by omega) (fun f' hf' ea' gf' => ⟨fun _ => ?_, fun z => absurd z (by decide)⟩) (fun no => absurd gf0 (no f hf rfl))
      exact hmx_isFreeFace hM.1 hc hf (by omega) (fun s hs w => ⟨fun _ => q1 s hs w, fun z => absurd z (by decide)⟩) (fun no => ⟨fun z => absurd rfl z, fun _ => q0 no⟩)
    refine hpx_isFree hE hP hM hL hf gf0 (by omega) (fun s hs w => ⟨fun _ => ?_, fun z => absurd z (by decide)⟩) (fun no => ⟨fun z => absurd rfl z, fun _ => ref _ (fun _ => ⟨rfl, hP, ⟨nh, e4, hHx⟩, hK⟩) (fun s hs w => absurd w (no s hs))⟩)
    have hI2 := hq_free_inv hI0 hf
    have hMf := hpM_of hI2.2.2.2.1
    refine hhx_save hHx hP hc (by omega) (fun t5 s5 j5 r5 h5 => ⟨vp_in_nI (n := f) (by omega) (by decide), fun v6 e6 v7 e7 => ?_⟩)
    have hE5 := hcE_S s5 hE
    have hP5 := hpX_S s5 hP
    have e6 : v6 = t5.2.2.2 1 f := e6.trans (congrArg (t5.2.2.2 1) cf)
    rw [e6] at e7
    have b7 : ∀ k, hb v7 k = true ↔ (k < c ∧ hm_faceT tm f k) := fun k => by
      rw [e7, hpx_over hE5 hP5 k]; exact and_congr_right (fun hk => (hmx_faceT hM hL hf hk gf0).symm)
    have sl : ∀ r, r < s → hb v7 r = false := fun r hr => Bool.eq_false_iff.mpr (fun y => w.2.2.1 r hr ((b7 r).mp y).2)
    refine hw_lowest (j := s) (by omega) ((b7 s).mpr ⟨hs, w.2.1⟩) sl (by omega) ?_
    refine hpx_drop hP5 hc hf (hpM_or (hpM_of hMt) hf) (by omega) (fun t9 k9 x9 => hpx_drop x9 hc hs (hpM_or hMf hs) (by omega) (fun t10 k10 x10 => hw_bc64 (by omega) ?_))
    rw [hct x10.2.2.1 (by omega)]
    have kk := k10.trans k9
    have h10 := hhX_fr h5 (congrArg (fun q => q.1.2.1) kk) (congrArg (fun q => q.1.2.2.1) kk) (congrArg (fun q => q.2.1.2.2.2.1) kk) (congrArg (fun q => q.2.2.2.2.2) kk)
    have j6 : t10.2.1 6 = tx.2.1 6 := (congrArg (fun q => q.1.2.2.2) kk).trans j5
    have r6 : t10.2.2.1 10 = tx.2.2.1 10 := (congrArg (fun q => q.2.1.2.2.2.2) kk).trans r5
    refine ref _ (fun no => absurd w (no s hs)) (fun s' hs' w' => ?_)
    have es : s' = s := by
      rcases Nat.lt_trichotomy s' s with q | q | q
      · exact absurd w'.2.1 (w.2.2.1 s' q)
      · exact q
      · exact absurd w.2.1 (w'.2.2.1 s q)
    refine hmx_remembers h4 hn16 (by omega) (fun R hR => ?_)
    refine hmx_overOf (t := sI (sA tm 8 R) 4 (nI (if nh = 16 then 16 else nh + 1))) hc hf ⟨s, hs, w.2.1⟩ (by omega) (fun s2 hs2 f2 l2 => ?_)
    have e2 : s2 = s := by
      rcases Nat.lt_trichotomy s2 s with q | q | q
      · exact absurd f2 (w.2.2.1 s2 q)
      · exact q
      · exact absurd w.2.1 (l2 s q)
    subst e2
    have cs : (nI s2).toNatClampNeg = s2 := nI_clamp (by omega)
    refine hq_frees (t := sI (sA tm 8 R) 4 (nI (if nh = 16 then 16 else nh + 1))) (m := c) hc hf hMt (by omega) ?_
    refine hq_frees (m := c) hc hs hI2.2.2.2.1 (by omega) ?_
    refine ⟨vp_in_nI (n := f) (by omega) (by decide), fun u9 g9 => ⟨vp_in_nI (n := s2) (by omega) (by decide), fun u10 g10 => ?_⟩⟩
    rw [cf] at g9
    rw [cs, g9] at g10
    have n1 : vp_nar .boolean 1 = (1 : Int32) := by decide
    have gone : ∀ k, hm_gone u10 k = if k = s2 then 1 else if k = f then 1 else hm_gone tm k := fun k => by rw [g10, n1]; rfl
    have gg : ∀ k, (hm_gone u10 k ≠ 0 ↔ ((hm_gone tm k ≠ 0 ∨ k = f) ∨ k = s2)) := by
      intro k
      rw [gone]
      by_cases a : k = s2
      · rw [if_pos a]; exact ⟨fun _ => Or.inr a, fun _ => by decide⟩
      · rw [if_neg a]
        by_cases b : k = f
        · rw [if_pos b]; exact ⟨fun _ => Or.inl (Or.inr b), fun _ => by decide⟩
        · rw [if_neg b]; exact ⟨fun y => Or.inl (Or.inl y), fun y => y.elim (fun y => y.elim id (fun y => absurd y b)) (fun y => absurd y a)⟩
    refine hm_thereMany (t := u10) (m := c) (by rw [g10]; exact hM.1) hc (by omega) ?_
    have ce : hm_cnt (fun k => hm_ind (hm_gone u10 k = 0)) c = hm_cnt (fun k => hm_ind (¬ ((hm_gone tm k ≠ 0 ∨ k = f) ∨ k = s2))) c := hct_eq (c := c) (fun k _ => by
      refine ⟨fun y z => (gg k).mpr z y, fun y => Classical.byContradiction (fun z => y ((gg k).mp z))⟩) c (Nat.le_refl c)
    rw [ce]
    refine ⟨rfl, hpX_ext x10 (fun k hk => by rw [g10]; rfl) (fun k hk => gg k), hHJ_push hn16 hc h10 hR (by rw [g10]; rfl) (by rw [g10]; rfl), hKJ_fr hK j6 r6 (by rw [g10]; rfl) (by rw [g10]; rfl)⟩
  · refine hmx_collapse0 ?_
    exact hm_isThere hM.1 hc (by omega) (fun f hf ea gf => absurd gf (no f hf ea)) (fun _ => ⟨fun z => absurd rfl z, fun _ => ⟨rfl, hP, ⟨nh, e4, hHx⟩, hK⟩⟩)
