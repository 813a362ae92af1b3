/-! ===== the class's PAIRS, exactly: unite, divide, drop, restart ===== -/
/-- what PAIRS alone leave: the SIMPLICES, the past, what is kept -/
def hpK (t : XT) : (Int32 × Int32 × Int32 × Int64) × ((Nat → Int32) × (Nat → Int32) × (Nat → Int32) × (Nat → Int32) × (Nat → Int32)) × ((Nat → Int64) × (Nat → Int64) × (Nat → Int64) × (Nat → Int64)) :=
  ((t.1 4, t.1 8, t.1 9, t.2.1 6), (t.2.2.1 2, t.2.2.1 3, t.2.2.1 4, t.2.2.1 9, t.2.2.1 10), (t.2.2.2 0, t.2.2.2 1, t.2.2.2 2, t.2.2.2 6))
theorem hcE_K {t t' : XT} {L : Nat → Int32} {c : Nat} (h : hpK t' = hpK t) (hE : hcE t L c) : hcE t' L c := by
  have a4 : t'.1 4 = t.1 4 := congrArg (fun q => q.1.1) h
  have b2 : t'.2.2.1 2 = t.2.2.1 2 := congrArg (fun q => q.2.1.1) h
  have b3 : t'.2.2.1 3 = t.2.2.1 3 := congrArg (fun q => q.2.1.2.1) h
  have b4 : t'.2.2.1 4 = t.2.2.1 4 := congrArg (fun q => q.2.1.2.2.1) h
  have d0 : t'.2.2.2 0 = t.2.2.2 0 := congrArg (fun q => q.2.2.1) h
  have d1 : t'.2.2.2 1 = t.2.2.2 1 := congrArg (fun q => q.2.2.2.1) h
  have d2 : t'.2.2.2 2 = t.2.2.2 2 := congrArg (fun q => q.2.2.2.2.1) h
  unfold hcE
  rw [a4, b2, b3, b4, d0, d1, d2]
  exact hE
/-- PAIRS of the class: P the PARTNERS, G what is GONE -/
def hpX (t : XT) (c : Nat) (P : Nat → Int32) (G : Nat → Prop) : Prop :=
  (∀ k, k < c → t.2.2.1 5 k = P k) ∧ (∀ k, c ≤ k → k < 64 → t.2.2.1 5 k = -1) ∧ (∀ k, hb (t.2.1 0) k = true ↔ (k < c ∧ ¬ G k)) ∧ (∀ k, hb (t.2.1 1) k = true ↔ (k < c ∧ P k ≠ -1 ∧ nI k < P k)) ∧ (∀ k, hb (t.2.1 2) k = true ↔ (k < c ∧ P k ≠ -1 ∧ ¬ nI k < P k))
theorem hpX_ext {t : XT} {c : Nat} {P P' : Nat → Int32} {G G' : Nat → Prop} (h : hpX t c P G) (e : ∀ k, k < c → P' k = P k) (g : ∀ k, k < c → (G' k ↔ G k)) : hpX t c P' G' := by
  obtain ⟨a1, a2, a3, a4, a5⟩ := h
  refine ⟨fun k hk => (a1 k hk).trans (e k hk).symm, a2, fun k => ?_, fun k => ?_, fun k => ?_⟩
  · rw [a3 k]; exact and_congr_right (fun hk => not_congr (g k hk).symm)
  · rw [a4 k]; exact and_congr_right (fun hk => by rw [e k hk])
  · rw [a5 k]; exact and_congr_right (fun hk => by rw [e k hk])
theorem hpx_unite {t : XT} {c f s K : Nat} {P : Nat → Int32} {G : Nat → Prop} {Q : XT → Prop} (h : hpX t c P G) (hc : c ≤ 60) (hfs : f < s) (hs : s < c) (ef : P f = -1) (es : P s = -1) (hK : 2 ≤ K) (hQ : ∀ t', hpK t' = hpK t → hpX t' c (hq_two P f s) G → Q t') : wqX6_unite K t (nI f) (nI s) Q := by
  obtain ⟨K, rfl⟩ : ∃ K', K = K' + 1 := ⟨K - 1, by omega⟩
  have cf : (nI f).toNatClampNeg = f := nI_clamp (by omega)
  have cs : (nI s).toNatClampNeg = s := nI_clamp (by omega)
  obtain ⟨a1, a2, a3, a4, a5⟩ := h
  show wbX6_unite_0 (wpX6_unite K) K t (uI (uI (fun _ => 0) 1 (nI f)) 2 (nI s)) (fun _ => 0) Q
  refine ⟨vp_in_nI (n := f) (by omega) (by decide), fun t1 e1 => ⟨vp_in_nI (n := s) (by omega) (by decide), fun t2 e2 => ?_⟩⟩
  refine hw_bit (k := f) (by omega) (by omega) (fun r3 g3 v4 e4 t5 e5 => hw_bit (k := s) (by omega) (by omega) (fun r6 g6 v7 e7 t8 e8 v9 e9 t10 e10 => ?_))
  have e1 : t1 = sA t 5 (upd (t.2.2.1 5) f (nI s)) := e1.trans (by show sA t 5 (upd (t.2.2.1 5) (nI f).toNatClampNeg (nI s)) = _; rw [cf])
  have e2 : t2 = sA t1 5 (upd (t1.2.2.1 5) s (nI f)) := e2.trans (by show sA t1 5 (upd (t1.2.2.1 5) (nI s).toNatClampNeg (nI f)) = _; rw [cs])
  have P' : ∀ k, hq_two P f s k = if k = s then nI f else if k = f then nI s else P k := fun k => rfl
  have r5 : t10.2.2.1 5 = upd (upd (t.2.2.1 5) f (nI s)) s (nI f) := by rw [e10, e8, e5, e2, e1]; rfl
  have l0 : t10.2.1 0 = t.2.1 0 := by rw [e10, e8, e5, e2, e1]; rfl
  have l1 : t10.2.1 1 = t.2.1 1 ||| r3 := by rw [e10, e8, e5, e4, e2, e1]; rfl
  have l2 : t10.2.1 2 = t.2.1 2 ||| r6 := by rw [e10, e8, e7, e5, e2, e1]; rfl
  have lt : nI f < nI s := nI_lt hfs (by omega)
  have ge : ¬ nI s < nI f := nI_nlt (by omega) (by omega)
  have nf : ¬ nI f = -1 := hs_nI_neg (by omega)
  have ns : ¬ nI s = -1 := hs_nI_neg (by omega)
  refine hQ t10 (by rw [e10, e8, e5, e2, e1]; rfl) ⟨fun k hk => ?_, fun k hk hk2 => ?_, fun k => ?_, fun k => ?_, fun k => ?_⟩
  · rw [r5, P']
    show (if k = s then nI f else if k = f then nI s else t.2.2.1 5 k) = _
    rw [a1 k hk]
  · rw [r5]
    show (if k = s then nI f else if k = f then nI s else t.2.2.1 5 k) = -1
    rw [if_neg (show ¬ k = s by omega), if_neg (show ¬ k = f by omega)]; exact a2 k hk hk2
  · rw [l0]; exact a3 k
  · rw [l1, hb_or, hb_one g3, Bool.or_eq_true, a4 k, P']
    by_cases z : k = s
    · rw [if_pos z, z]
      exact ⟨fun w => w.elim (fun w => absurd es w.2.1) (fun w => absurd (of_decide_eq_true w) (by omega)), fun w => absurd w.2.2 ge⟩
    · rw [if_neg z]
      by_cases y : k = f
      · rw [if_pos y, y]; exact ⟨fun _ => ⟨by omega, ns, lt⟩, fun _ => Or.inr (decide_eq_true rfl)⟩
      · rw [if_neg y]; exact ⟨fun w => w.elim id (fun w => absurd (of_decide_eq_true w).symm y), Or.inl⟩
  · rw [l2, hb_or, hb_one g6, Bool.or_eq_true, a5 k, P']
    by_cases z : k = s
    · rw [if_pos z, z]; exact ⟨fun _ => ⟨hs, nf, ge⟩, fun _ => Or.inr (decide_eq_true rfl)⟩
    · rw [if_neg z]
      by_cases y : k = f
      · rw [if_pos y, y]
        exact ⟨fun w => w.elim (fun w => absurd ef w.2.1) (fun w => absurd (of_decide_eq_true w) (by omega)), fun w => absurd lt w.2.2⟩
      · rw [if_neg y]; exact ⟨fun w => w.elim id (fun w => absurd (of_decide_eq_true w).symm z), Or.inl⟩
theorem hpx_divide {t : XT} {c k K : Nat} {P : Nat → Int32} {G : Nat → Prop} {Q : XT → Prop} (h : hpX t c P G) (hc : c ≤ 60) (hk : k < c) (hp : P k = -1 ∨ ∃ o, o < c ∧ P k = nI o) (hK : 2 ≤ K) (hQ : ∀ t', hpK t' = hpK t → hpX t' c (hq_free P k) G → Q t') : wqX6_divide K t (nI k) Q := by
  obtain ⟨K, rfl⟩ : ∃ K', K = K' + 1 := ⟨K - 1, by omega⟩
  have ck : (nI k).toNatClampNeg = k := nI_clamp (by omega)
  have ha := h
  obtain ⟨a1, a2, a3, a4, a5⟩ := h
  have ik := vp_in_nI (n := k) (N := 64) (by omega) (by decide)
  show wbX6_divide_0 (wpX6_divide K) K t (uI (fun _ => 0) 1 (nI k)) (fun _ => 0) Q
  refine ⟨ik, fun v1 e1 => ?_⟩
  have e1 : v1 = P k := e1.trans ((congrArg (t.2.2.1 5) ck).trans (a1 k hk))
  rcases hp with ep | ⟨o, ho, ep⟩
  · refine ⟨fun n => absurd (e1.trans ep) n, fun _ => hQ t rfl ?_⟩
    have e : hq_free P k = P := by unfold hq_free; rw [if_pos ep]
    rw [e]; exact ha
  · have no : ¬ nI o = -1 := hs_nI_neg (by omega)
    have co : (nI o).toNatClampNeg = o := nI_clamp (by omega)
    have e1 : v1 = nI o := e1.trans ep
    subst e1
    refine ⟨fun _ => ⟨ik, fun t3 e3 => ⟨vp_in_nI (n := o) (by omega) (by decide), fun t4 e4 => ?_⟩⟩, fun y => absurd y no⟩
    refine hw_bit (k := k) (by omega) (by omega) (fun r5 g5 => hw_bit (k := o) (by omega) (by omega) (fun r6 g6 v7 e7 v8 e8 v9 e9 t10 e10 v11 e11 t12 e12 v13 e13 t14 e14 => ?_))
    have e3 : t3 = sA t 5 (upd (t.2.2.1 5) k (-1)) := e3.trans (by show sA t 5 (upd (t.2.2.1 5) (nI k).toNatClampNeg (-1)) = _; rw [ck])
    have e4 : t4 = sA t3 5 (upd (t3.2.2.1 5) o (-1)) := by rw [e4, co]
    have P' : ∀ j, hq_free P k j = if j = k ∨ j = o then -1 else P j := by
      intro j
      unfold hq_free
      rw [if_neg (show ¬ P k = -1 by rw [ep]; exact no), ep, co]
      show (if j = k then -1 else if j = o then -1 else P j) = _
      by_cases z : j = k
      · rw [if_pos z, if_pos (Or.inl z)]
      · rw [if_neg z]
        by_cases y : j = o
        · rw [if_pos y, if_pos (Or.inr y)]
        · rw [if_neg y, if_neg (fun w => w.elim z y)]
    have q5 : t14.2.2.1 5 = upd (upd (t.2.2.1 5) k (-1)) o (-1) := by rw [e14, e12, e10, e4, e3]; rfl
    have l0 : t14.2.1 0 = t.2.1 0 := by rw [e14, e12, e10, e4, e3]; rfl
    have l1 : t14.2.1 1 = t.2.1 1 &&& ((r5 ||| r6) ^^^ (-1)) := by rw [e14, e12, e10, e9, e8, e7, e4, e3]; rfl
    have l2 : t14.2.1 2 = t.2.1 2 &&& ((r5 ||| r6) ^^^ (-1)) := by rw [e14, e12, e11, e10, e8, e7, e4, e3]; rfl
    have cut : ∀ (v : Int64) (j : Nat), hb (v &&& ((r5 ||| r6) ^^^ (-1))) j = true ↔ (hb v j = true ∧ ¬ (j = k ∨ j = o)) := by
      intro v j
      by_cases j64 : j < 64
      · rw [hb_and, hb_not _ j64, hb_or, hb_one g5, hb_one g6, Bool.and_eq_true, Bool.not_eq_true', Bool.or_eq_false_iff]
        refine and_congr_right (fun _ => ⟨fun w y => ?_, fun w => ⟨decide_eq_false (fun q => w (Or.inl q.symm)), decide_eq_false (fun q => w (Or.inr q.symm))⟩⟩)
        rcases y with y | y
        · exact absurd (decide_eq_true y.symm) (by rw [w.1]; decide)
        · exact absurd (decide_eq_true y.symm) (by rw [w.2]; decide)
      · rw [hb_big (by omega), hb_big (by omega)]
        exact ⟨fun w => absurd w (by decide), fun w => absurd w.1 (by decide)⟩
    refine hQ t14 (by rw [e14, e12, e10, e4, e3]; rfl) ⟨fun j hj => ?_, fun j hj hj2 => ?_, fun j => ?_, fun j => ?_, fun j => ?_⟩
    · rw [q5, P']
      show (if j = o then -1 else if j = k then -1 else t.2.2.1 5 j) = _
      by_cases y : j = o
      · rw [if_pos y, if_pos (Or.inr y)]
      · rw [if_neg y]
        by_cases z : j = k
        · rw [if_pos z, if_pos (Or.inl z)]
        · rw [if_neg z, if_neg (fun w => w.elim z y)]; exact a1 j hj
    · rw [q5]
      show (if j = o then -1 else if j = k then -1 else t.2.2.1 5 j) = -1
      rw [if_neg (show ¬ j = o by omega), if_neg (show ¬ j = k by omega)]; exact a2 j hj hj2
    · rw [l0]; exact a3 j
    · rw [l1, cut, a4 j, P']
      by_cases z : j = k ∨ j = o
      · rw [if_pos z]; exact ⟨fun w => absurd z w.2, fun w => absurd rfl w.2.1⟩
      · rw [if_neg z]; exact ⟨fun w => w.1, fun w => ⟨w, z⟩⟩
    · rw [l2, cut, a5 j, P']
      by_cases z : j = k ∨ j = o
      · rw [if_pos z]; exact ⟨fun w => absurd z w.2, fun w => absurd rfl w.2.1⟩
      · rw [if_neg z]; exact ⟨fun w => w.1, fun w => ⟨w, z⟩⟩
theorem hpx_drop {t : XT} {c k K : Nat} {P : Nat → Int32} {G : Nat → Prop} {Q : XT → Prop} (h : hpX t c P G) (hc : c ≤ 60) (hk : k < c) (hp : P k = -1 ∨ ∃ o, o < c ∧ P k = nI o) (hK : 4 ≤ K) (hQ : ∀ t', hpK t' = hpK t → hpX t' c (hq_free P k) (fun j => G j ∨ j = k) → Q t') : wqX6_drop K t (nI k) Q := by
  obtain ⟨K, rfl⟩ : ∃ K', K = K' + 1 := ⟨K - 1, by omega⟩
  show wbX6_drop_0 (wpX6_drop K) K t (uI (fun _ => 0) 1 (nI k)) (fun _ => 0) Q
  refine hpx_divide h hc hk hp (by omega) (fun t1 k1 x1 => hw_bit (k := k) (by omega) (by omega) (fun r2 g2 v3 e3 v4 e4 t5 e5 v6 e6 t7 e7 => ?_))
  obtain ⟨a1, a2, a3, a4, a5⟩ := x1
  have l0 : t7.2.1 0 = t1.2.1 0 &&& (r2 ^^^ (-1)) := by rw [e7, e5, e4, e3]; rfl
  have l1 : t7.2.1 1 = t1.2.1 1 := by rw [e7, e5]; rfl
  have l2 : t7.2.1 2 = t1.2.1 2 := by rw [e7, e5]; rfl
  have r5 : t7.2.2.1 5 = t1.2.2.1 5 := by rw [e7, e5]; rfl
  refine hQ t7 ((show hpK t7 = hpK t1 by rw [e7, e5]; rfl).trans k1) ⟨by rw [r5]; exact a1, by rw [r5]; exact a2, fun j => ?_, by rw [l1]; exact a4, by rw [l2]; exact a5⟩
  rw [l0]
  by_cases j64 : j < 64
  · rw [hb_and, hb_not _ j64, hb_one g2, Bool.and_eq_true, a3 j, Bool.not_eq_true']
    refine ⟨fun w => ⟨w.1.1, fun y => y.elim w.1.2 (fun y => ?_)⟩, fun w => ⟨⟨w.1, fun y => w.2 (Or.inl y)⟩, decide_eq_false (fun q => w.2 (Or.inr q.symm))⟩⟩
    exact absurd (decide_eq_true y.symm) (by rw [w.2]; decide)
  · rw [hb_big (by omega)]
    exact ⟨fun w => absurd w (by decide), fun w => absurd w.1 (by omega)⟩
theorem hpx_restart {t : XT} {c K : Nat} {G : Nat → Prop} {v : Int64} {Q : XT → Prop} (hv : ∀ k, hb v k = true ↔ (k < c ∧ ¬ G k)) (hK : 1 ≤ K) (hQ : ∀ t', hpK t' = hpK t → hpX t' c (fun _ => -1) G → Q t') : wqX6_restart K t v Q := by
  obtain ⟨K, rfl⟩ : ∃ K', K = K' + 1 := ⟨K - 1, by omega⟩
  show wbX6_restart_0 (wpX6_restart K) K t (fun _ => 0) (uI (fun _ => 0) 1 v) Q
  intro t1 e1 t2 e2 t3 e3 t4 e4 v5 _ t6 e6
  have l0 : t6.2.1 0 = v := by rw [e6, e4, e3, e2, e1]; rfl
  have l1 : t6.2.1 1 = 0 := by rw [e6, e4, e3, e2, e1]; rfl
  have l2 : t6.2.1 2 = 0 := by rw [e6, e4, e3, e2, e1]; rfl
  have r5 : t6.2.2.1 5 = fun _ => -1 := by rw [e6, e4, e3, e2, e1]; rfl
  refine hQ t6 (by rw [e6, e4, e3, e2, e1]; rfl) ⟨fun k _ => by rw [r5], fun k _ _ => by rw [r5], fun k => by rw [l0]; exact hv k, fun k => ?_, fun k => ?_⟩
  · rw [l1, hb_0]; exact ⟨fun w => absurd w (by decide), fun w => absurd rfl w.2.1⟩
  · rw [l2, hb_0]; exact ⟨fun w => absurd w (by decide), fun w => absurd rfl w.2.1⟩
