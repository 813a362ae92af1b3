/-! ===== count 6: the reference's partsMany, exactly ===== -/
def hzJ (L : Nat → Int32) (c : Nat) (p : Nat → Prop) (F : Nat → Int32) : Prop := ∀ k, k < c → ∃ a, a ≤ k ∧ F k = nI a ∧ (p k → hzR L c p k a)
/-- two that touch, gone through before (f, s), have one label -/
def hzD (L : Nat → Int32) (c : Nat) (p : Nat → Prop) (F : Nat → Int32) (f s : Nat) : Prop := ∀ a b, (a < f ∨ (a = f ∧ b < s)) → a < c → b < c → p a → p b → hnF L b a → F a = F b
theorem hzD_s {L : Nat → Int32} {c f s : Nat} {p : Nat → Prop} {F : Nat → Int32} (h : hzD L c p F f s) (e : p f → p s → hnF L s f → F f = F s) : hzD L c p F f (s + 1) := by
  intro a b o ha hb pa pb t
  by_cases z : a = f ∧ b = s
  · obtain ⟨z1, z2⟩ := z
    subst z1
    subst z2
    exact e pa pb t
  · exact h a b (by omega) ha hb pa pb t
theorem hzJ_up {L : Nat → Int32} {c f s : Nat} {p : Nat → Prop} {F : Nat → Int32} {v : Int32} (hc : c ≤ 60) (hJ : hzJ L c p F) (hf : f < c) (hs : s < c) (pf : p f) (ps : p s) (t : hnF L s f) (hv : v = if F s < F f then F s else F f) : hzJ L c p (upd (upd F f v) s v) := by
  obtain ⟨a, a1, a2, a3⟩ := hJ f hf
  obtain ⟨b, b1, b2, b3⟩ := hJ s hs
  have fs : f < s := t.1
  have rfs : hzR L c p f s := hzR_s hzR_0 hs ps (Or.inr t)
  have rsf : hzR L c p s f := hzR_s hzR_0 hf pf (Or.inl t)
  have w : ∃ m, m ≤ f ∧ v = nI m ∧ hzR L c p f m := by
    rw [a2, b2] at hv
    by_cases z : b < a
    · rw [if_pos (nI_lt z (by omega))] at hv
      exact ⟨b, by omega, hv, hzR_t rfs (b3 ps)⟩
    · rw [if_neg (nI_nlt (by omega) (by omega))] at hv
      exact ⟨a, a1, hv, a3 pf⟩
  obtain ⟨m, m1, m2, m3⟩ := w
  intro k hk
  have e : upd (upd F f v) s v k = if k = s then v else if k = f then v else F k := rfl
  rw [e]
  by_cases x : k = s
  · rw [if_pos x, x]; exact ⟨m, by omega, m2, fun _ => hzR_t rsf m3⟩
  · rw [if_neg x]
    by_cases y : k = f
    · rw [if_pos y, y]; exact ⟨m, m1, m2, fun _ => m3⟩
    · rw [if_neg y]; exact hJ k hk
theorem hmx_parts_in {t : XT} {L0 : Nat → Int32} {m f μ0 : Nat} {p : Nat → Prop} {lj : Nat → Int64} {Q : Int32 → XT → Prop} (hM : hmE t L0 m) (hL0 : hnL L0 m) (hp : ∀ k, k < m → (p k ↔ hm_gone t k = 0)) (hf : f < m) (L : Nat) (hL : 10 ≤ L)
    (cont : ∀ (K' : Nat) (F : Nat → Int32) (li' : Nat → Int32), L ≤ K' → hq_J m μ0 F (li' 1) → hzJ L0 m p F → (li' 1 = 0 → hzD L0 m p F (f + 1) 0) → li' 2 = nI (f + 1) → wpX12_partsMany K' 3 (sA t 7 F) li' lj Q) :
    ∀ (d s K : Nat) (F : Nat → Int32) (li : Nat → Int32), s + d = m → 2 * d + L + 1 ≤ K → hq_J m μ0 F (li 1) → hzJ L0 m p F → (li 1 = 0 → hzD L0 m p F f s) → li 2 = nI f → li 3 = nI s → wpX12_partsMany K 4 (sA t 7 F) li lj Q := by
  have hm := hM.1
  have hm60 := hL0.1
  intro d
  induction d with
  | zero =>
    intro s K F li hd hK hJ hZ hD e2 e3
    obtain ⟨K, rfl⟩ : ∃ K', K = K' + 1 := ⟨K - 1, by omega⟩
    show wbX12_partsMany_4 (wpX12_partsMany K) K (sA t 7 F) li lj Q
    refine ⟨fun _ v e => cont K F (uI li 2 v) (by omega) hJ hZ (fun z a b o ha hb pa pb tt => hD z a b (by omega) ha hb pa pb tt) (by show v = _; rw [e, e2]; exact hs_inc f), fun x => absurd ?_ x⟩
    show t.1 3 ≤ li 3
    rw [hm, e3]; exact nI_le (by omega) (by omega)
  | succ d ih =>
    intro s K F li hd hK hJ hZ hD e2 e3
    obtain ⟨K, rfl⟩ : ∃ K', K = K' + 2 := ⟨K - 2, by omega⟩
    have nx : ∀ (F' : Nat → Int32) (li' : Nat → Int32), hq_J m μ0 F' (li' 1) → hzJ L0 m p F' → (li' 1 = 0 → hzD L0 m p F' f (s + 1)) → li' 2 = nI f → li' 3 = nI s → wpX12_partsMany (K + 1) 5 (sA t 7 F') li' lj Q := by
      intro F' li' hJ' hZ' hD' a2 a3
      show wbX12_partsMany_5 (wpX12_partsMany K) K (sA t 7 F') li' lj Q
      intro v e
      exact ih (s + 1) K F' (uI li' 3 v) (by omega) (by omega) hJ' hZ' hD' a2 (by show v = _; rw [e, a3]; exact hs_inc s)
    have cf : (nI f).toNatClampNeg = f := nI_clamp (by omega)
    have cs : (nI s).toNatClampNeg = s := nI_clamp (by omega)
    have hF := hf_face (t := sA t 7 F) hM hL0 hf (show s < m by omega)
    show wbX12_partsMany_4 (wpX12_partsMany (K + 1)) (K + 1) (sA t 7 F) li lj Q
    unfold wbX12_partsMany_4
    rw [e2, e3]
    refine ⟨fun x => absurd (show t.1 3 ≤ nI s from x) (by rw [hm]; exact nI_ge (by omega) (by omega)), fun _ => ?_⟩
    refine hm_isFaceThere (t := sA t 7 F) (by omega) (by omega) (by omega) (fun fT => ?_) (fun no => ⟨fun _ => nx F li hJ hZ (fun z => hzD_s (hD z) (fun pf ps tt => absurd ⟨(hp f hf).mp pf, (hp s (by omega)).mp ps, hF.mpr tt⟩ no)) e2 e3, fun x => absurd rfl x⟩)
    have inf : vp_in (nI f) 60 := vp_in_nI (by omega) (by decide)
    have ins : vp_in (nI s) 60 := vp_in_nI (by omega) (by decide)
    refine ⟨fun x => absurd x (by decide), fun _ => ⟨inf, fun v10 e10 => ⟨ins, fun v11 e11 => ⟨fun eq => ?_, fun ne => ⟨inf, fun v13 e13 => ⟨ins, fun v14 e14 v15 e15 => ⟨inf, fun t16 e16 => ⟨ins, fun t17 e17 => ?_⟩⟩⟩⟩⟩⟩⟩⟩
    · have e10 : v10 = F f := e10.trans (congrArg F cf)
      have e11 : v11 = F s := e11.trans (congrArg F cs)
      exact nx F li hJ hZ (fun z => hzD_s (hD z) (fun _ _ _ => e10.symm.trans (eq.trans e11))) e2 e3
    have e10 : v10 = F f := e10.trans (congrArg F cf)
    have e11 : v11 = F s := e11.trans (congrArg F cs)
    have e13 : v13 = F f := e13.trans (congrArg F cf)
    have e14 : v14 = F s := e14.trans (congrArg F cs)
    rw [e10, e11] at ne
    rw [e13, e14] at e15
    obtain ⟨a, ha, ea⟩ := hJ.1 f hf
    obtain ⟨b, hb, eb⟩ := hJ.1 s (by omega)
    obtain ⟨g1, g2⟩ := hq_mu_step hJ.1 hf (show s < m by omega) ha hb ea eb ne v15 e15
    have e17' : t17 = sA t 7 (upd (upd F f v15) s v15) := by
      rw [e17, e16]
      show sA (sA (sA t 7 F) 7 (upd F (nI f).toNatClampNeg v15)) 7 (upd (upd F (nI f).toNatClampNeg v15) (nI s).toNatClampNeg v15) = _
      rw [hm_sAA, hm_sAA, cf, cs]
    rw [e17']
    have := hJ.2.1
    exact nx _ (uI li 1 1) ⟨g1, by omega, Or.inr (by omega)⟩ (hzJ_up hm60 hZ hf (by omega) ((hp f hf).mpr fT.1) ((hp s (by omega)).mpr fT.2.1) (hF.mp fT.2.2) e15) (fun z => absurd (show (1 : Int32) = 0 from z) (by decide)) e2 e3
theorem hmx_parts_out {t : XT} {L0 : Nat → Int32} {m μ0 : Nat} {p : Nat → Prop} {lj : Nat → Int64} {Q : Int32 → XT → Prop} (hM : hmE t L0 m) (hL0 : hnL L0 m) (hp : ∀ k, k < m → (p k ↔ hm_gone t k = 0)) (L : Nat) (hL : 10 ≤ L)
    (cont : ∀ (K' : Nat) (F : Nat → Int32) (li' : Nat → Int32), L ≤ K' → hq_J m μ0 F (li' 1) → hzJ L0 m p F → (li' 1 = 0 → hzD L0 m p F m 0) → wpX12_partsMany K' 2 (sA t 7 F) li' lj Q) :
    ∀ (d f K : Nat) (F : Nat → Int32) (li : Nat → Int32), f + d = m → 130 * d + L + 1 ≤ K → hq_J m μ0 F (li 1) → hzJ L0 m p F → (li 1 = 0 → hzD L0 m p F f 0) → li 2 = nI f → wpX12_partsMany K 3 (sA t 7 F) li lj Q := by
  have hm := hM.1
  have hm60 := hL0.1
  intro d
  induction d with
  | zero =>
    intro f K F li hd hK hJ hZ hD e2
    obtain ⟨K, rfl⟩ : ∃ K', K = K' + 1 := ⟨K - 1, by omega⟩
    obtain rfl : f = m := by omega
    show wbX12_partsMany_3 (wpX12_partsMany K) K (sA t 7 F) li lj Q
    refine ⟨fun _ => cont K F li (by omega) hJ hZ hD, fun x => absurd ?_ x⟩
    show t.1 3 ≤ li 2
    rw [hm, e2]; exact nI_le (by omega) (by omega)
  | succ d ih =>
    intro f K F li hd hK hJ hZ hD e2
    obtain ⟨K, rfl⟩ : ∃ K', K = K' + 1 := ⟨K - 1, by omega⟩
    show wbX12_partsMany_3 (wpX12_partsMany K) K (sA t 7 F) li lj Q
    refine ⟨fun x => absurd (show t.1 3 ≤ li 2 from x) (by rw [hm, e2]; exact nI_ge (by omega) (by omega)), fun _ => ?_⟩
    obtain ⟨L2, hL2⟩ : ∃ L2, L2 = 130 * d + L + 1 := ⟨_, rfl⟩
    exact hmx_parts_in hM hL0 hp (show f < m by omega) L2 (by omega) (fun K' F' li' h1 h2 h3 h4 h5 => ih (f + 1) K' F' li' (by omega) (by omega) h2 h3 h4 h5) m 0 K F (uI li 3 0) (by omega) (by omega) hJ hZ hD e2 rfl
theorem hzD_all {L : Nat → Int32} {c k : Nat} (c60 : c ≤ 60) {p : Nat → Prop} {F : Nat → Int32} (hJ : hzJ L c p F) (hD : hzD L c p F c 0) (hk : k < c) : hzM L c p k ↔ (p k ∧ F k = nI k) := by
  have all : p k → ∀ j, hzR L c p k j → j < c ∧ p j ∧ F j = F k := fun pk j r => r (fun j => j < c ∧ p j ∧ F j = F k) ⟨hk, pk, rfl⟩ (fun a b ha hb pb t => ⟨hb, pb, by
    rcases t with t | t
    · exact (hD b a (Or.inl hb) hb ha.1 pb ha.2.1 t).trans ha.2.2
    · exact (hD a b (Or.inl ha.1) ha.1 hb ha.2.1 pb t).symm.trans ha.2.2⟩)
  obtain ⟨a, a1, a2, a3⟩ := hJ k hk
  refine ⟨fun w => ⟨w.1, ?_⟩, fun w => ?_⟩
  · have : ¬ a < k := fun q => w.2 a q (a3 w.1)
    rw [a2, show a = k by omega]
  · refine ⟨w.1, fun j hj r => ?_⟩
    obtain ⟨jc, pj, e⟩ := all w.1 j r
    obtain ⟨b, b1, b2, _⟩ := hJ j jc
    have := (nI_eq (a := b) (b := k) (by omega) (by omega)).mp (b2.symm.trans (e.trans w.2))
    omega
