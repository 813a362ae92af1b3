/-! ===== staysAcyclic of the class, exactly: the least set closed behind a FACE ===== -/
noncomputable def hst_n (p : Nat → Prop) (c : Nat) : Nat := hm_sum (fun k => hq_sel (p k) 1) c
theorem hst_le (p : Nat → Prop) : ∀ c, hst_n p c ≤ c := by
  intro c
  induction c with
  | zero => exact Nat.le_refl 0
  | succ c ih =>
    show hst_n p c + hq_sel (p c) 1 ≤ c + 1
    have := hq_sel_le (p c) 1
    omega
theorem hst_lt {p q : Nat → Prop} {c j : Nat} (hj : j < c) (hp : p j) (hq : ¬ q j) (h : ∀ k, k < c → q k → p k) : hst_n q c < hst_n p c := by
  refine hm_sum_lt c j hj ?_ (fun k hk => ?_)
  · show hq_sel (q j) 1 < hq_sel (p j) 1
    rw [hq_sel0 hq, hq_sel1 hp]; decide
  · show hq_sel (q k) 1 ≤ hq_sel (p k) 1
    by_cases z : q k
    · rw [hq_sel1 z, hq_sel1 (h k hk z)]; exact Nat.le_refl _
    · rw [hq_sel0 z]; exact Nat.zero_le _
theorem hst_0 {p : Nat → Prop} {c : Nat} (h : hst_n p c = 0) : ∀ k, k < c → ¬ p k := by
  intro k hk hp
  have := @hst_lt p (fun _ => False) c k hk hp (fun w => w) (fun _ _ w => False.elim w)
  omega
/-- lower ones of PAIRS -/
def hpl (P : Nat → Int32) (k : Nat) : Prop := P k ≠ -1 ∧ nI k < P k
/-- behind f in s: all other FACES of s, and the FACES of the PARTNER of each lower one in it -/
def hst_b (L : Nat → Int32) (f s : Nat) (T : Nat → Prop) : Prop := ∀ g, hnF L s g → g ≠ f → T g
def hst_c (L P : Nat → Int32) (c : Nat) (T : Nat → Prop) : Prop := ∀ x p g, x < c → T x → hpl P x → p < c → P x = nI p → hnF L p g → T g
theorem hst_go {t : XT} {L P : Nat → Int32} {G : Nat → Prop} {c f s : Nat} {Q : Int32 → XT → Prop} (hE : hcE t L c) (hX : hpX t c P G) (hM : hpM P c) (hc : c ≤ 60) (hf : f < c) (hs : s < c)
    (h1 : ∀ S : Nat → Prop, hst_b L f s S → hst_c L P c S → (∀ T, hst_b L f s T → hst_c L P c T → ∀ g, S g → T g) → ¬ S f → Q 1 t) (h0 : ∀ S : Nat → Prop, hst_b L f s S → hst_c L P c S → (∀ T, hst_b L f s T → hst_c L P c T → ∀ g, S g → T g) → S f → Q 0 t) :
    ∀ (d i K : Nat) (li : Nat → Int32) (lj : Nat → Int64), i + d = 60 → 2 * d + 10 ≤ K → li 1 = nI f → li 7 = nI i →
      (∀ g, hb (lj 3) g = true → g < c) → hst_b L f s (fun g => hb (lj 3) g = true) → (∀ T, hst_b L f s T → hst_c L P c T → ∀ g, hb (lj 3) g = true → T g) →
      (∀ g, hb (lj 5) g = true → hb (lj 3) g = true ∧ hpl P g) → (∀ x p g, x < c → hb (lj 3) x = true → hpl P x → ¬ hb (lj 5) x = true → p < c → P x = nI p → hnF L p g → hb (lj 3) g = true) →
      i + hst_n (fun k => hb (lj 5) k = true ∨ (hpl P k ∧ ¬ hb (lj 3) k = true)) c ≤ 60 → wpX6_staysAcyclic K 1 t li lj Q := by
  intro d
  induction d with
  | zero =>
    intro i K li lj hd hK e1 e7 hin hb0 hle hw hcl hn
    obtain ⟨K, rfl⟩ : ∃ K', K = K' + 2 := ⟨K - 2, by omega⟩
    obtain rfl : i = 60 := by omega
    have z0 : hst_n (fun k => hb (lj 5) k = true ∨ (hpl P k ∧ ¬ hb (lj 3) k = true)) c = 0 := by omega
    have w0 : ∀ k, k < c → ¬ hb (lj 5) k = true := fun k hk w => hst_0 z0 k hk (Or.inl w)
    show wbX6_staysAcyclic_1 (wpX6_staysAcyclic (K + 1)) (K + 1) t li lj Q
    refine ⟨fun _ => ?_, fun x => absurd (show nI 60 ≤ li 7 by rw [e7]; exact nI_le (by omega) (by omega)) x⟩
    show wbX6_staysAcyclic_3 (wpX6_staysAcyclic K) K t li lj Q
    unfold wbX6_staysAcyclic_3
    rw [e1]
    have cl : hst_c L P c (fun g => hb (lj 3) g = true) := fun x p g hx a b hp e' y => hcl x p g hx a b (w0 x hx) hp e' y
    exact hw_isIn (by omega) (by omega) (fun y => ⟨fun _ => h0 _ hb0 cl hle y, fun z => absurd z (by decide)⟩) (fun y => ⟨fun z => absurd rfl z, fun _ => h1 _ hb0 cl hle (by rw [y]; decide)⟩)
  | succ d ih =>
    intro i K li lj hd hK e1 e7 hin hb0 hle hw hcl hn
    obtain ⟨K, rfl⟩ : ∃ K', K = K' + 2 := ⟨K - 2, by omega⟩
    show wbX6_staysAcyclic_1 (wpX6_staysAcyclic (K + 1)) (K + 1) t li lj Q
    unfold wbX6_staysAcyclic_1
    rw [e7]
    have fin : (∀ k, k < c → ¬ hb (lj 5) k = true) → wpX6_staysAcyclic (K + 1) 3 t li lj Q := by
      intro w0
      show wbX6_staysAcyclic_3 (wpX6_staysAcyclic K) K t li lj Q
      unfold wbX6_staysAcyclic_3
      rw [e1]
      have cl : hst_c L P c (fun g => hb (lj 3) g = true) := fun x p g hx a b hp e' y => hcl x p g hx a b (w0 x hx) hp e' y
      exact hw_isIn (by omega) (by omega) (fun y => ⟨fun _ => h0 _ hb0 cl hle y, fun z => absurd z (by decide)⟩) (fun y => ⟨fun z => absurd rfl z, fun _ => h1 _ hb0 cl hle (by rw [y]; decide)⟩)
    refine ⟨fun x => absurd (show nI 60 ≤ nI i from x) (nI_ge (by omega) (by omega)), fun _ v7 e8 => ⟨fun z => fin (fun k hk w => ?_), fun nz => ?_⟩⟩
    · rw [e8] at z
      exact absurd w (by rw [hb_z z k]; decide)
    rcases @hb_ne (lj 5) with z | ⟨j, j64, jb, jl⟩
    · exact absurd (by rw [e8, z]; decide) nz
    obtain ⟨jS, jlow⟩ := hw j jb
    have jc : j < c := hin j jS
    rcases hM j jc with e | ⟨p, hp, pj, ep, ep'⟩
    · exact absurd e jlow.1
    have cj : (nI j).toNatClampNeg = j := nI_clamp (by omega)
    have cp : (nI p).toNatClampNeg = p := nI_clamp (by omega)
    refine hw_lowest j64 jb jl (by omega) (hw_bit (k := j) j64 (by omega) (fun r10 g10 v11 e11 v12 e12 => ⟨vp_in_nI j64 (by decide), fun v13 e13 => ?_⟩))
    have pr : t.2.2.1 5 (nI j).toNatClampNeg = nI p := by rw [cj, hX.1 j jc]; exact ep
    rw [pr] at e13
    refine ⟨fun y => absurd (e13.symm.trans y) (hs_nI_neg (by omega)), fun _ => ⟨vp_in_nI j64 (by decide), fun v15 e15 => ?_⟩⟩
    rw [pr] at e15
    subst e15
    refine ⟨vp_in_nI (n := p) (by omega) (by decide), fun v16 e16 v17 e17 v18 e18 v19 e19 v20 e20 v21 e21 => ?_⟩
    rw [cp] at e16
    have b16 : ∀ g, hb v16 g = true ↔ hnF L p g := fun g => by
      rw [e16, hE.2.2.2.2.1 p g]; exact ⟨fun w => w.2, fun w => ⟨hp, w⟩⟩
    have b18 : ∀ g, hb v18 g = true ↔ (hnF L p g ∧ ¬ hb (lj 3) g = true) := by
      intro g
      rw [e18, e17]
      by_cases g64 : g < 64
      · rw [hb_and, hb_not _ g64, Bool.and_eq_true, b16 g, Bool.not_eq_true', Bool.eq_false_iff]
      · rw [hb_big (by omega)]
        exact ⟨fun w => absurd w (by decide), fun w => by have := w.1.1; omega⟩
    have b19 : ∀ g, hb v19 g = true ↔ (hb (lj 3) g = true ∨ hnF L p g) := by
      intro g
      rw [e19, hb_or, Bool.or_eq_true, b18 g]
      refine ⟨fun w => w.elim Or.inl (fun w => Or.inr w.1), fun w => ?_⟩
      by_cases y : hb (lj 3) g = true
      · exact Or.inl y
      · exact Or.inr ⟨w.elim (fun a => absurd a y) id, y⟩
    have b12 : ∀ g, hb v12 g = true ↔ (hb (lj 5) g = true ∧ g ≠ j) := by
      intro g
      rw [e12, e11]
      by_cases g64 : g < 64
      · rw [hb_and, hb_not _ g64, hb_one g10, Bool.and_eq_true, Bool.not_eq_true']
        refine and_congr_right (fun _ => ⟨fun w q => ?_, fun w => decide_eq_false (fun q => w q.symm)⟩)
        rw [q, decide_eq_true rfl] at w
        exact absurd w (by decide)
      · rw [hb_big (by omega)]
        exact ⟨fun w => absurd w (by decide), fun w => absurd (hin g (hw g w.1).1) (by omega)⟩
    have b21 : ∀ g, hb v21 g = true ↔ ((hb (lj 5) g = true ∧ g ≠ j) ∨ ((hnF L p g ∧ ¬ hb (lj 3) g = true) ∧ g < c ∧ hpl P g)) := by
      intro g
      rw [e21, hb_or, Bool.or_eq_true, b12 g, e20, hb_and, Bool.and_eq_true, b18 g, hX.2.2.2.1 g]
      exact Iff.rfl
    show wbX6_staysAcyclic_2 (wpX6_staysAcyclic K) K t (uI li 8 (nI j)) (uI (uI lj 3 v19) 5 v21) Q
    intro v22 e22
    have l3 : uI (uI lj 3 v19) 5 v21 3 = v19 := rfl
    have l5 : uI (uI lj 3 v19) 5 v21 5 = v21 := rfl
    have gp : ∀ g, hnF L p g → g < c := fun g w => by have := w.1; omega
    refine ih (i + 1) K _ _ (by omega) (by omega) e1 (by show v22 = _; rw [e22]; exact (congrArg (· + Int32.ofInt 1) e7).trans (hs_inc i)) ?_ ?_ ?_ ?_ ?_ ?_
    · rw [l3]; intro g w; exact ((b19 g).mp w).elim (hin g) (gp g)
    · rw [l3]; exact fun g a b => (b19 g).mpr (Or.inl (hb0 g a b))
    · rw [l3]
      intro T tb tc g w
      exact ((b19 g).mp w).elim (hle T tb tc g) (fun y => tc j p g jc (hle T tb tc j jS) jlow hp ep y)
    · rw [l3, l5]
      intro g w
      rcases (b21 g).mp w with w | w
      · exact ⟨(b19 g).mpr (Or.inl (hw g w.1).1), (hw g w.1).2⟩
      · exact ⟨(b19 g).mpr (Or.inr w.1.1), w.2.2⟩
    · rw [l3, l5]
      intro x q g hx a b nb hq eq y
      rcases (b19 x).mp a with a | a
      · by_cases xj : x = j
        · subst xj
          have : q = p := (nI_eq (by omega) (by omega)).mp (eq.symm.trans ep)
          subst this
          exact (b19 g).mpr (Or.inr y)
        · refine (b19 g).mpr (Or.inl (hcl x q g hx a b (fun w => nb ((b21 x).mpr (Or.inl ⟨w, xj⟩))) hq eq y))
      · by_cases xs : hb (lj 3) x = true
        · by_cases xj : x = j
          · subst xj
            have : q = p := (nI_eq (by omega) (by omega)).mp (eq.symm.trans ep)
            subst this
            exact (b19 g).mpr (Or.inr y)
          · exact (b19 g).mpr (Or.inl (hcl x q g hx xs b (fun w => nb ((b21 x).mpr (Or.inl ⟨w, xj⟩))) hq eq y))
        · exact absurd ((b21 x).mpr (Or.inr ⟨⟨a, xs⟩, hx, b⟩)) nb
    · rw [l3, l5]
      have lt := @hst_lt (fun k => hb (lj 5) k = true ∨ (hpl P k ∧ ¬ hb (lj 3) k = true)) (fun k => hb v21 k = true ∨ (hpl P k ∧ ¬ hb v19 k = true)) c j jc (Or.inl jb) (fun w => ?_) (fun k hk w => ?_)
      · omega
      · rcases w with w | w
        · rcases (b21 j).mp w with w | w
          · exact w.2 rfl
          · exact w.1.2 jS
        · exact w.2 ((b19 j).mpr (Or.inl jS))
      · rcases w with w | w
        · rcases (b21 k).mp w with w | w
          · exact Or.inl w.1
          · exact Or.inr ⟨w.2.2, w.1.2⟩
        · exact Or.inr ⟨w.1, fun y => w.2 ((b19 k).mpr (Or.inl y))⟩
theorem hst {t : XT} {L P : Nat → Int32} {G : Nat → Prop} {c f s K : Nat} {Q : Int32 → XT → Prop} (hE : hcE t L c) (hX : hpX t c P G) (hM : hpM P c) (hc : c ≤ 60) (hf : f < c) (hs : s < c) (hK : 200 ≤ K)
    (h1 : ∀ S : Nat → Prop, hst_b L f s S → hst_c L P c S → (∀ T, hst_b L f s T → hst_c L P c T → ∀ g, S g → T g) → ¬ S f → Q 1 t) (h0 : ∀ S : Nat → Prop, hst_b L f s S → hst_c L P c S → (∀ T, hst_b L f s T → hst_c L P c T → ∀ g, S g → T g) → S f → Q 0 t) : wqX6_staysAcyclic K t (nI f) (nI s) Q := by
  obtain ⟨K, rfl⟩ : ∃ K', K = K' + 1 := ⟨K - 1, by omega⟩
  have cs : (nI s).toNatClampNeg = s := nI_clamp (by omega)
  show wbX6_staysAcyclic_0 (wpX6_staysAcyclic K) K t (uI (uI (fun _ => 0) 1 (nI f)) 2 (nI s)) (fun _ => 0) Q
  refine ⟨vp_in_nI (n := s) (by omega) (by decide), fun v1 e1 => hw_bit (k := f) (by omega) (by omega) (fun r2 g2 v3 e3 v4 e4 v5 e5 => ?_)⟩
  have e1 : v1 = t.2.2.2 0 s := e1.trans (congrArg (t.2.2.2 0) cs)
  have b4 : ∀ g, hb v4 g = true ↔ (hnF L s g ∧ g ≠ f) := by
    intro g
    rw [e4, e3]
    by_cases g64 : g < 64
    · rw [hb_and, hb_not _ g64, hb_one g2, e1, Bool.and_eq_true, hE.2.2.2.2.1 s g, Bool.not_eq_true']
      refine ⟨fun w => ⟨w.1.2, fun q => ?_⟩, fun w => ⟨⟨hs, w.1⟩, decide_eq_false (fun q => w.2 q.symm)⟩⟩
      have y := w.2
      rw [q, decide_eq_true rfl] at y
      exact absurd y (by decide)
    · rw [hb_big (by omega)]
      exact ⟨fun w => absurd w (by decide), fun w => by have := w.1.1; omega⟩
  have b5 : ∀ g, hb v5 g = true ↔ ((hnF L s g ∧ g ≠ f) ∧ g < c ∧ hpl P g) := by
    intro g
    rw [e5, hb_and, Bool.and_eq_true, b4 g, hX.2.2.2.1 g]; exact Iff.rfl
  refine hst_go hE hX hM hc hf hs h1 h0 60 0 K _ (uI (uI (fun _ => 0) 3 v4) 5 v5) (by omega) (by omega) rfl rfl ?_ ?_ ?_ ?_ ?_ ?_
  · intro g w
    have := ((b4 g).mp w).1.1
    omega
  · exact fun g a b => (b4 g).mpr ⟨a, b⟩
  · exact fun T tb _ g w => tb g ((b4 g).mp w).1 ((b4 g).mp w).2
  · exact fun g w => ⟨(b4 g).mpr ((b5 g).mp w).1, ((b5 g).mp w).2.2⟩
  · exact fun x p g hx a b nb => absurd ((b5 x).mpr ⟨(b4 x).mp a, hx, b⟩) nb
  · have := hst_le (fun k => hb (uI (uI (fun _ => 0) 3 v4) 5 v5 5) k = true ∨ (hpl P k ∧ ¬ hb (uI (uI (fun _ => 0) 3 v4) 5 v5 3) k = true)) c
    omega
