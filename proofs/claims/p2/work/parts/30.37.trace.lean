/-! ===== the k-th PATH: what it is; the class's trace, exactly ===== -/
def hch (tm : XT) (c : Nat) (A : Nat → Nat) (a left f l : Nat) : Prop := f < c ∧ (hm_faceT tm f a ∧ hm_par tm a ≠ nI f) ∧ left = hwT tm f a A + l ∧ l < A f
theorem hwT_s (tm : XT) (n a : Nat) (A : Nat → Nat) : hwT tm (n + 1) a A = hwT tm n a A + hq_sel (hm_faceT tm n a ∧ hm_par tm a ≠ nI n) (A n) := rfl
theorem hwT_mono {tm : XT} {a : Nat} {A : Nat → Nat} {i : Nat} : ∀ d, hwT tm i a A ≤ hwT tm (i + d) a A := by
  intro d
  induction d with
  | zero => exact Nat.le_refl _
  | succ d ih => exact Nat.le_trans ih (Nat.le_add_right _ _)
theorem hwT_le {tm : XT} {a i j : Nat} {A : Nat → Nat} (h : i ≤ j) : hwT tm i a A ≤ hwT tm j a A := by
  have := hwT_mono (tm := tm) (a := a) (A := A) (i := i) (j - i)
  rw [show i + (j - i) = j by omega] at this; exact this
theorem hch_ex {tm : XT} {a left : Nat} {A : Nat → Nat} : ∀ c, left < hwT tm c a A → ∃ f l, hch tm c A a left f l := by
  intro c
  induction c with
  | zero => intro h; exact absurd h (Nat.not_lt_zero _)
  | succ c ih =>
    intro h
    by_cases q : left < hwT tm c a A
    · obtain ⟨f, l, h1, h2⟩ := ih q
      exact ⟨f, l, by omega, h2⟩
    · rw [hwT_s] at h
      by_cases r : hm_faceT tm c a ∧ hm_par tm a ≠ nI c
      · rw [hq_sel1 r] at h
        exact ⟨c, left - hwT tm c a A, by omega, r, by omega, by omega⟩
      · rw [hq_sel0 r] at h; omega
theorem hch_uni {tm : XT} {c a left f l j z : Nat} {A : Nat → Nat} (h : hch tm c A a left f l) (g : hch tm c A a left j z) : j = f ∧ z = l := by
  obtain ⟨_, h1, h2, h3⟩ := h
  obtain ⟨_, g1, g2, g3⟩ := g
  have sf := hwT_s tm f a A
  have sj := hwT_s tm j a A
  rw [hq_sel1 h1] at sf
  rw [hq_sel1 g1] at sj
  by_cases q : f < j
  · have := hwT_le (tm := tm) (a := a) (A := A) (i := f + 1) (j := j) (by omega)
    omega
  · by_cases r : j < f
    · have := hwT_le (tm := tm) (a := a) (A := A) (i := j + 1) (j := f) (by omega)
      omega
    · have : j = f := by omega
      subst this
      exact ⟨rfl, by omega⟩
/-- the rest of the PATH behind a SIMPLEX -/
def hpt (tm : XT) (c e : Nat) (A : Nat → Nat) : List Nat → Nat → Nat → Prop
  | [], _, _ => False
  | [f], a, left => f = e ∧ ∃ l, hch tm c A a left f l
  | f :: p :: r, a, left => f ≠ e ∧ ∃ l, hch tm c A a left f l ∧ p < c ∧ hm_par tm f = nI p ∧ hm_low tm f ∧ hm_gone tm p = 0 ∧ hm_dim tm p = hm_dim tm e + 1 ∧ hpt tm c e A r p l
/-- what can stand in it -/
def hpb (tm : XT) (c e : Nat) (δ : Nat → Nat) (u x : Nat) : Prop := x < c ∧ (x = e ∨ (hm_low tm x ∧ δ x < u) ∨ ∃ f, f < c ∧ hm_low tm f ∧ δ f < u ∧ hm_par tm f = nI x)
theorem hpt_ex {tm : XT} {c e n' : Nat} {A δ : Nat → Nat} (hc : c ≤ 60) (hI : hq_inv tm c n') (hA : hwf tm c e A) (ce : hm_crit tm e)
    (d2 : ∀ f g, f < c → g < c → hm_low tm f → hm_low tm g → g ≠ f → hm_on tm f g → δ g < δ f) :
    ∀ N u, u ≤ N → ∀ a left, a < c → (∀ f, f < c → hm_faceT tm f a → hm_par tm a ≠ nI f → hm_low tm f → δ f < u) → left < hwT tm c a A → ∃ l, hpt tm c e A l a left ∧ l.Nodup ∧ ∀ x, x ∈ l → hpb tm c e δ u x := by
  have hMt := hI.2.2.2.1
  intro N
  have one : ∀ u a left f l, hch tm c A a left f l → f = e → ∃ l, hpt tm c e A l a left ∧ l.Nodup ∧ ∀ x, x ∈ l → hpb tm c e δ u x := by
    intro u a left f l h q
    exact ⟨[f], ⟨q, l, h⟩, List.nodup_cons.mpr ⟨fun z => absurd z List.not_mem_nil, List.nodup_nil⟩, fun x hx => by
      have : x = f := List.mem_singleton.mp hx
      rw [this]; exact ⟨h.1, Or.inl q⟩⟩
  have goes : ∀ a left f l, hch tm c A a left f l → ¬ f = e → hq_goes tm e f := by
    intro a left f l h q
    refine Classical.byContradiction (fun z => ?_)
    have := hA.2 f h.1 z
    rw [if_neg q] at this
    have := h.2.2.2
    omega
  induction N with
  | zero =>
    intro u hu a left ha hs hl
    obtain ⟨f, l, h⟩ := hch_ex c hl
    by_cases q : f = e
    · exact one u a left f l h q
    · exact absurd (hs f h.1 h.2.1.1 h.2.1.2 (goes a left f l h q).2.2.1) (by omega)
  | succ N ih =>
    intro u hu a left ha hs hl
    obtain ⟨f, l, h⟩ := hch_ex c hl
    by_cases q : f = e
    · exact one u a left f l h q
    · have go := goes a left f l h q
      have df := hs f h.1 h.2.1.1 h.2.1.2 go.2.2.1
      have hf := h.1
      rcases hMt f hf with z | ⟨p, hp, ep, eb, ord⟩
      · exact absurd z go.2.2.1.1
      have lt : f < p := (hm_low_iff (by omega) (by omega) ep).mp go.2.2.1
      have fc : hm_face tm f p := ord.elim (fun w => w.2) (fun w => absurd w.1 (by omega))
      have gp : hm_gone tm p = 0 := hI.2.2.2.2.2.2.2.2.1 p hp (by rw [eb]; exact hs_nI_neg (by omega))
      have dp : hm_dim tm p = hm_dim tm e + 1 := by rw [fc.1, go.2.2.2]
      have np : ¬ hm_low tm p := fun z => absurd ((hm_low_iff (by omega) (by omega) eb).mp z) (by omega)
      have tot : hwT tm c p A = A f := by
        rw [hA.1 f p hf hp go ep]
        refine hq_sum_eq c (fun x hx => ?_)
        show hq_sel (hm_faceT tm x p ∧ hm_par tm p ≠ nI x) (A x) = hq_sel (x ≠ f ∧ hm_faceT tm x p) (A x)
        by_cases y : x ≠ f ∧ hm_faceT tm x p
        · rw [hq_sel1 y, hq_sel1 ⟨y.2, fun z => y.1 ((nI_eq (by omega) (by omega)).mp (eb.symm.trans z)).symm⟩]
        · rw [hq_sel0 y, hq_sel0 (fun z => y ⟨fun w => z.2 (by rw [eb, w]), z.1⟩)]
      obtain ⟨r, r1, r2, r3⟩ := ih (δ f) (by omega) p l hp (fun g hg fg ng lg => d2 f g hf hg go.2.2.1 lg (fun z => ng (by rw [eb, z])) ⟨p, by omega, ep, fg.2.2⟩) (by rw [tot]; exact h.2.2.2)
      have nf : f ∉ r := by
        intro z
        rcases (r3 f z).2 with w | w | ⟨g, g1, g2, g3, g4⟩
        · exact q w
        · exact absurd w.2 (Nat.lt_irrefl _)
        · have g5 := (hm_low_iff (by omega) (by omega) g4).mp g2
          rcases hMt g g1 with y | ⟨p', hp', ep', eb', _⟩
          · exact g2.1 y
          · have : p' = f := (nI_eq (by omega) (by omega)).mp (ep'.symm.trans g4)
            subst this
            have := (hm_low_iff (by omega) (by omega) eb').mp go.2.2.1
            omega
      have npr : p ∉ r := by
        intro z
        rcases (r3 p z).2 with w | w | ⟨g, g1, g2, g3, g4⟩
        · rw [w] at eb
          exact hs_nI_neg (by omega) (eb.symm.trans ce.2)
        · exact np w.1
        · rcases hMt g g1 with y | ⟨p', hp', ep', eb', _⟩
          · exact g2.1 y
          · have : p' = p := (nI_eq (by omega) (by omega)).mp (ep'.symm.trans g4)
            subst this
            have : g = f := (nI_eq (by omega) (by omega)).mp (eb'.symm.trans eb)
            rw [this] at g3; exact Nat.lt_irrefl _ g3
      refine ⟨f :: p :: r, ⟨q, l, h, hp, ep, go.2.2.1, gp, dp, r1⟩, List.nodup_cons.mpr ⟨fun z => ?_, List.nodup_cons.mpr ⟨npr, r2⟩⟩, fun x hx => ?_⟩
      · rcases List.mem_cons.mp z with w | w
        · omega
        · exact nf w
      · rcases List.mem_cons.mp hx with w | w
        · rw [w]; exact ⟨hf, Or.inr (Or.inl ⟨go.2.2.1, df⟩)⟩
        · rcases List.mem_cons.mp w with w | w
          · rw [w]; exact ⟨hp, Or.inr (Or.inr ⟨f, hf, go.2.2.1, df, ep⟩)⟩
          · obtain ⟨b1, b2⟩ := r3 x w
            refine ⟨b1, ?_⟩
            rcases b2 with y | y | ⟨g, g1, g2, g3, g4⟩
            · exact Or.inl y
            · exact Or.inr (Or.inl ⟨y.1, by omega⟩)
            · exact Or.inr (Or.inr ⟨g, g1, g2, by omega, g4⟩)
theorem hpt_len {c : Nat} {l : List Nat} (nd : l.Nodup) (h : ∀ x, x ∈ l → x < c) : l.length ≤ c := by
  refine hT_pig c l.length (fun i => l.getD i 0) (fun i hi => ?_) (fun i j hi hj e => ?_)
  · have : l.getD i 0 = l[i] := by simp [List.getD, hi]
    show l.getD i 0 < c
    rw [this]; exact h _ (List.getElem_mem hi)
  · have e : l.getD i 0 = l.getD j 0 := e
    have ei : l.getD i 0 = l[i] := by simp [List.getD, hi]
    have ej : l.getD j 0 = l[j] := by simp [List.getD, hj]
    rw [ei, ej] at e
    have pw := List.pairwise_iff_getElem.mp nd
    by_cases q : i < j
    · exact absurd e (pw i j hi hj q)
    · by_cases r : j < i
      · exact absurd e.symm (pw j i hj hi r)
      · omega
/-- the row with the rest of the PATH in it -/
def hpr : (Nat → Int32) → Nat → List Nat → (Nat → Int32)
  | R, _, [] => R
  | R, n, f :: r => hpr (upd R n (nI f)) (n + 1) r
theorem hpr_lo : ∀ (l : List Nat) (R : Nat → Int32) (n i : Nat), i < n → hpr R n l i = R i := by
  intro l
  induction l with
  | nil => intro R n i _; rfl
  | cons f r ih =>
    intro R n i hi
    show hpr (upd R n (nI f)) (n + 1) r i = R i
    rw [ih _ _ _ (by omega)]
    exact if_neg (by omega)
theorem hpr_at : ∀ (l : List Nat) (R : Nat → Int32) (n i : Nat), i < l.length → hpr R n l (n + i) = nI (l.getD i 0) := by
  intro l
  induction l with
  | nil => intro R n i h; exact absurd h (Nat.not_lt_zero _)
  | cons f r ih =>
    intro R n i hi
    show hpr (upd R n (nI f)) (n + 1) r (n + i) = _
    cases i with
    | zero =>
      rw [hpr_lo _ _ _ _ (by omega)]
      exact if_pos rfl
    | succ i =>
      have := ih (upd R n (nI f)) (n + 1) i (by simpa using hi)
      rw [show n + 1 + i = n + (i + 1) by omega] at this
      rw [this]; rfl
