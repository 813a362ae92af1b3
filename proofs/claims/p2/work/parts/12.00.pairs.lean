/-! ===== reference, pure: isFree, couples, frees; what they leave of the PAIRS ===== -/
theorem hq_com (t : XT) (p F q : Nat → Int32) : sA (sA (sA t 4 p) 7 F) 4 q = sA (sA t 4 q) 7 F := by
  unfold sA uI
  refine Prod.ext rfl (Prod.ext rfl (Prod.ext ?_ rfl))
  funext j
  show cond (Nat.beq j 4) q (cond (Nat.beq j 7) F (cond (Nat.beq j 4) p (t.2.2.1 j))) = cond (Nat.beq j 7) F (cond (Nat.beq j 4) q (t.2.2.1 j))
  cases h4 : Nat.beq j 4 with
  | false => cases Nat.beq j 7 <;> rfl
  | true => rw [Nat.eq_of_beq_eq_true h4]; rfl
theorem hq_isFree {K f s : Nat} {t : XT} {Q : Int32 → XT → Prop} (hf : f < 60) (hs : s < 60) (hK : 2 ≤ K) (h1 : hm_par t f = -1 → hm_par t s = -1 → Q 1 t) (h0 : ¬ (hm_par t f = -1 ∧ hm_par t s = -1) → Q 0 t) : wqX12_isFree K t (nI f) (nI s) Q := by
  obtain ⟨K, rfl⟩ : ∃ K', K = K' + 1 := ⟨K - 1, by omega⟩
  have out : ¬ (hm_par t f = -1 ∧ hm_par t s = -1) → wpX12_isFree K 1 t (uI (uI (fun _ => 0) 1 (nI f)) 2 (nI s)) (fun _ => 0) Q := by
    intro q
    obtain ⟨K, rfl⟩ : ∃ K', K = K' + 1 := ⟨K - 1, by omega⟩
    exact h0 q
  show wbX12_isFree_0 (wpX12_isFree K) K t (uI (uI (fun _ => 0) 1 (nI f)) 2 (nI s)) (fun _ => 0) Q
  refine ⟨vp_in_nI hf (by decide), fun v1 e1 => ?_⟩
  have e1 : v1 = hm_par t f := e1.trans (congrArg (t.2.2.1 4) (nI_clamp (by omega)))
  refine ⟨fun c => out (fun z => c (e1.trans z.1)), fun c => ⟨vp_in_nI hs (by decide), fun v3 e3 => ?_⟩⟩
  have e3 : v3 = hm_par t s := e3.trans (congrArg (t.2.2.1 4) (nI_clamp (by omega)))
  exact ⟨fun d => out (fun z => d (e3.trans z.2)), fun d => h1 (e1.symm.trans c) (e3.symm.trans d)⟩
def hq_two (p : Nat → Int32) (f s : Nat) : Nat → Int32 := upd (upd p f (nI s)) s (nI f)
theorem hq_match_two {t : XT} {m f s : Nat} (hm60 : m ≤ 60) (hf : f < m) (hs : s < m) (hfs : f < s) (hF : hm_face t f s) (hM : hm_match t m) (ef : hm_par t f = -1) (es : hm_par t s = -1) : hm_match (sA t 4 (hq_two (t.2.2.1 4) f s)) m := by
  have par : ∀ k, hm_par (sA t 4 (hq_two (t.2.2.1 4) f s)) k = if k = s then nI f else if k = f then nI s else hm_par t k := fun k => rfl
  intro k hk
  by_cases a : k = s
  · refine Or.inr ⟨f, hf, ?_, ?_, Or.inr ⟨by omega, ?_⟩⟩
    · rw [par, if_pos a]
    · rw [par, if_neg (show ¬ f = s by omega), if_pos rfl, a]
    · rw [a]; exact hF
  · by_cases b : k = f
    · refine Or.inr ⟨s, hs, ?_, ?_, Or.inl ⟨by omega, ?_⟩⟩
      · rw [par, if_neg a, if_pos b]
      · rw [par, if_pos rfl, b]
      · rw [b]; exact hF
    · rcases hM k hk with z | ⟨p, hp, e1, e2, e3⟩
      · exact Or.inl (by rw [par, if_neg a, if_neg b]; exact z)
      · have n1 : ¬ p = s := by
          intro q
          rw [q, es] at e2
          exact hs_nI_neg (n := k) (by omega) e2.symm
        have n2 : ¬ p = f := by
          intro q
          rw [q, ef] at e2
          exact hs_nI_neg (n := k) (by omega) e2.symm
        refine Or.inr ⟨p, hp, ?_, ?_, e3⟩
        · rw [par, if_neg a, if_neg b]; exact e1
        · rw [par, if_neg n1, if_neg n2]; exact e2
theorem hq_couples {t : XT} {m f s K : Nat} {Q : Int32 → XT → Prop} (hm : t.1 3 = nI m) (hm60 : m ≤ 60) (hf : f < m) (hs : s < m) (hfs : f < s) (hF : hm_face t f s) (hM : hm_match t m) (ef : hm_par t f = -1) (es : hm_par t s = -1) (hK : 30001 ≤ K)
    (h1 : hm_match (sA t 4 (hq_two (t.2.2.1 4) f s)) m → hm_acyc (sA t 4 (hq_two (t.2.2.1 4) f s)) m → ∀ F, Q 1 (sA (sA t 4 (hq_two (t.2.2.1 4) f s)) 7 F)) (h0 : ∀ F, Q 0 (sA t 7 F)) : wqX12_couples K t (nI f) (nI s) Q := by
  obtain ⟨K, rfl⟩ : ∃ K', K = K' + 1 := ⟨K - 1, by omega⟩
  have cf : (nI f).toNatClampNeg = f := nI_clamp (by omega)
  have cs : (nI s).toNatClampNeg = s := nI_clamp (by omega)
  show wbX12_couples_0 (wpX12_couples K) K t (uI (uI (fun _ => 0) 1 (nI f)) 2 (nI s)) (fun _ => 0) Q
  refine ⟨vp_in_nI (by omega) (by decide), fun t1 e1 => ⟨vp_in_nI (by omega) (by decide), fun t2 e2 => ?_⟩⟩
  have e2' : t2 = sA t 4 (hq_two (t.2.2.1 4) f s) := by
    rw [e2, e1]
    show sA (sA t 4 (upd (t.2.2.1 4) (nI f).toNatClampNeg (nI s))) 4 (upd (upd (t.2.2.1 4) (nI f).toNatClampNeg (nI s)) (nI s).toNatClampNeg (nI f)) = _
    rw [hm_sAA, cf, cs]; rfl
  clear e2
  subst e2'
  have hM2 := hq_match_two hm60 hf hs hfs hF hM ef es
  refine hm_isAcyclic (t := sA t 4 (hq_two (t.2.2.1 4) f s)) hm hm60 (hm_match_pars hM2) (by omega) (fun hA F => ?_) (fun F => ?_)
  · exact ⟨fun c => absurd c (by decide), fun _ => h1 hM2 hA F⟩
  · refine ⟨fun _ => ⟨vp_in_nI (by omega) (by decide), fun t5 e5 => ⟨vp_in_nI (by omega) (by decide), fun t6 e6 => ?_⟩⟩, fun c => absurd rfl c⟩
    have e6' : t6 = sA t 7 F := by
      rw [e6, e5]
      show sA (sA (sA (sA t 4 (hq_two (t.2.2.1 4) f s)) 7 F) 4 (upd (hq_two (t.2.2.1 4) f s) (nI f).toNatClampNeg (-1))) 4 (upd (upd (hq_two (t.2.2.1 4) f s) (nI f).toNatClampNeg (-1)) (nI s).toNatClampNeg (-1)) = _
      have z : upd (upd (hq_two (t.2.2.1 4) f s) f (-1)) s (-1) = t.2.2.1 4 := by
        funext j
        show (if j = s then (-1 : Int32) else if j = f then -1 else if j = s then nI f else if j = f then nI s else t.2.2.1 4 j) = t.2.2.1 4 j
        by_cases a : j = s
        · rw [if_pos a, a]; exact es.symm
        · rw [if_neg a]
          by_cases b : j = f
          · rw [if_pos b, b]; exact ef.symm
          · rw [if_neg b, if_neg a, if_neg b]
      rw [hm_sAA, cf, cs, hq_com, z, hm_sA0]
    rw [e6']; exact h0 F
def hq_free (p : Nat → Int32) (k : Nat) : Nat → Int32 := if p k = -1 then p else upd (upd p (p k).toNatClampNeg (-1)) k (-1)
theorem hq_frees {t : XT} {m k K : Nat} {Q : XT → Prop} (hm60 : m ≤ 60) (hk : k < m) (hM : hm_match t m) (hK : 1 ≤ K) (h : Q (sA t 4 (hq_free (t.2.2.1 4) k))) : wqX12_frees K t (nI k) Q := by
  obtain ⟨K, rfl⟩ : ∃ K', K = K' + 1 := ⟨K - 1, by omega⟩
  have ck : (nI k).toNatClampNeg = k := nI_clamp (by omega)
  show wbX12_frees_0 (wpX12_frees K) K t (uI (fun _ => 0) 1 (nI k)) (fun _ => 0) Q
  refine ⟨vp_in_nI (by omega) (by decide), fun v1 e1 => ?_⟩
  have e1 : v1 = hm_par t k := e1.trans (congrArg (t.2.2.1 4) ck)
  refine ⟨fun c => ?_, fun c => ?_⟩
  · have z : hq_free (t.2.2.1 4) k = t.2.2.1 4 := if_pos (e1.symm.trans c)
    rw [z, hm_sA0] at h; exact h
  · rcases hM k hk with q | ⟨p, hp, q1, q2, q3⟩
    · exact absurd (e1.trans q) c
    · have cp : (nI p).toNatClampNeg = p := nI_clamp (by omega)
      have ev : v1 = nI p := e1.trans q1
      refine ⟨by rw [ev]; exact vp_in_nI (by omega) (by decide), fun t3 e3 => ⟨vp_in_nI (by omega) (by decide), fun t4 e4 => ?_⟩⟩
      have e4' : t4 = sA t 4 (hq_free (t.2.2.1 4) k) := by
        rw [e4, e3]
        show sA (sA t 4 (upd (t.2.2.1 4) v1.toNatClampNeg (-1))) 4 (upd (upd (t.2.2.1 4) v1.toNatClampNeg (-1)) (nI k).toNatClampNeg (-1)) = _
        have z : hq_free (t.2.2.1 4) k = upd (upd (t.2.2.1 4) (t.2.2.1 4 k).toNatClampNeg (-1)) k (-1) := if_neg (fun y => c (e1.trans y))
        rw [hm_sAA, ck, z, show t.2.2.1 4 k = nI p from q1, ev]
      rw [e4']; exact h
theorem hq_free_at {p : Nat → Int32} {k : Nat} (j : Nat) : hq_free p k j = -1 ∨ hq_free p k j = p j := by
  unfold hq_free
  by_cases c : p k = -1
  · rw [if_pos c]; exact Or.inr rfl
  · rw [if_neg c]
    show (if j = k then (-1 : Int32) else if j = (p k).toNatClampNeg then -1 else p j) = -1 ∨ (if j = k then (-1 : Int32) else if j = (p k).toNatClampNeg then -1 else p j) = p j
    by_cases a : j = k
    · exact Or.inl (if_pos a)
    · by_cases b : j = (p k).toNatClampNeg
      · exact Or.inl ((if_neg a).trans (if_pos b))
      · exact Or.inr ((if_neg a).trans (if_neg b))
theorem hq_sub_acyc {t t' : XT} {m : Nat} (hl : ∀ j, hm_let t' j = hm_let t j) (hp : ∀ j, j < m → hm_par t' j = -1 ∨ hm_par t' j = hm_par t j) (hA : hm_acyc t m) : hm_acyc t' m := by
  obtain ⟨δ, d1, d2⟩ := hA
  have low : ∀ j, j < m → hm_low t' j → hm_low t j ∧ hm_par t' j = hm_par t j := by
    intro j hj q
    rcases hp j hj with z | z
    · exact absurd z q.1
    · unfold hm_low at q
      rw [z] at q
      exact ⟨q, z⟩
  refine ⟨δ, fun f hf q => d1 f hf (low f hf q).1, fun f g hf hg qf qg ne on => d2 f g hf hg (low f hf qf).1 (low g hg qg).1 ne ?_⟩
  obtain ⟨p, hp60, e, fc⟩ := on
  refine ⟨p, hp60, (low f hf qf).2.symm.trans e, ?_⟩
  unfold hm_face hm_dim at fc
  rw [hl p, hl g] at fc
  exact fc
theorem hq_free_match {t : XT} {m k : Nat} (hm60 : m ≤ 60) (hk : k < m) (hM : hm_match t m) : hm_match (sA t 4 (hq_free (t.2.2.1 4) k)) m := by
  intro j hj
  rcases hM k hk with q | ⟨p, hp, q1, q2, q3⟩
  · have z : hq_free (t.2.2.1 4) k = t.2.2.1 4 := if_pos q
    rw [z, hm_sA0]; exact hM j hj
  · have cp : (nI p).toNatClampNeg = p := nI_clamp (by omega)
    have z : hq_free (t.2.2.1 4) k = upd (upd (t.2.2.1 4) p (-1)) k (-1) := by
      refine (if_neg (fun y => hs_nI_neg (n := p) (by omega) (q1.symm.trans y))).trans ?_
      rw [show t.2.2.1 4 k = nI p from q1, cp]
    rw [z]
    have par : ∀ j, hm_par (sA t 4 (upd (upd (t.2.2.1 4) p (-1)) k (-1))) j = if j = k then -1 else if j = p then -1 else hm_par t j := fun j => rfl
    by_cases a : j = k
    · exact Or.inl (by rw [par, if_pos a])
    · by_cases b : j = p
      · exact Or.inl (by rw [par, if_neg a, if_pos b])
      · rcases hM j hj with y | ⟨p', hp', z1, z2, z3⟩
        · exact Or.inl (by rw [par, if_neg a, if_neg b]; exact y)
        · have n1 : ¬ p' = k := by
            intro y
            rw [y, q1] at z2
            exact b ((nI_eq (by omega) (by omega)).mp z2.symm)
          have n2 : ¬ p' = p := by
            intro y
            rw [y, q2] at z2
            exact a ((nI_eq (by omega) (by omega)).mp z2.symm)
          refine Or.inr ⟨p', hp', ?_, ?_, z3⟩
          · rw [par, if_neg a, if_neg b]; exact z1
          · rw [par, if_neg n1, if_neg n2]; exact z2
theorem hq_free_acyc {t : XT} {m k : Nat} (hA : hm_acyc t m) : hm_acyc (sA t 4 (hq_free (t.2.2.1 4) k)) m := hq_sub_acyc (t := t) (fun _ => rfl) (fun j _ => hq_free_at j) hA
