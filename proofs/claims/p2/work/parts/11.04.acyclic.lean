/-! ===== the reference, without the machine: leadsOn, isAcyclic: where it answers 1, some function falls ===== -/
def hm_on (t : XT) (f g : Nat) : Prop := ∃ p, p < 60 ∧ hm_par t f = nI p ∧ hm_face t g p
def hm_acyc (t : XT) (m : Nat) : Prop := ∃ δ : Nat → Nat, (∀ f, f < m → hm_low t f → δ f < 60) ∧ ∀ f g, f < m → g < m → hm_low t f → hm_low t g → g ≠ f → hm_on t f g → δ g < δ f
def hm_pars (t : XT) (m : Nat) : Prop := ∀ k, k < m → hm_low t k → ∃ p, p < m ∧ hm_par t k = nI p
theorem hm_leads_go {t : XT} {m f p : Nat} {F : Nat → Int32} {lj : Nat → Int64} {Q : Int32 → XT → Prop} (hm : t.1 3 = nI m) (hm60 : m ≤ 60) (hf : f < m) (hp : p < m) (ep : hm_par t f = nI p)
    (h1 : ∀ g, g < m → g ≠ f → F g = 1 → hm_face t g p → Q 1 (sA t 7 F)) (h0 : (∀ g, g < m → g ≠ f → F g = 1 → ¬ hm_face t g p) → Q 0 (sA t 7 F)) :
    ∀ (n g K : Nat) (li : Nat → Int32), g + n = m → 2 * n + 10 ≤ K → li 1 = nI f → li 2 = nI g → (∀ g', g' < g → g' ≠ f → F g' = 1 → ¬ hm_face t g' p) → wpX12_leadsOn K 1 (sA t 7 F) li lj Q := by
  intro n
  induction n with
  | zero =>
    intro g K li hn hK e1 e2 hz
    obtain ⟨K, rfl⟩ : ∃ K', K = K' + 1 := ⟨K - 1, by omega⟩
    show wbX12_leadsOn_1 (wpX12_leadsOn K) K (sA t 7 F) li lj Q
    refine ⟨fun _ => h0 (fun g' a => hz g' (by omega)), fun c1 => absurd (show t.1 3 ≤ li 2 from ?_) c1⟩
    rw [hm, e2]; exact nI_le (by omega) (by omega)
  | succ n ih =>
    intro g K li hn hK e1 e2 hz
    obtain ⟨K, rfl⟩ : ∃ K', K = K' + 2 := ⟨K - 2, by omega⟩
    have nx : (g ≠ f → F g = 1 → ¬ hm_face t g p) → wpX12_leadsOn (K + 1) 2 (sA t 7 F) li lj Q := by
      intro q
      show wbX12_leadsOn_2 (wpX12_leadsOn K) K (sA t 7 F) li lj Q
      intro v8 f8
      refine ih (g + 1) K _ (by omega) (by omega) e1 (f8.trans ((congrArg (· + Int32.ofInt 1) e2).trans (hs_inc g))) (fun g' a => ?_)
      by_cases e : g' = g
      · rw [e]; exact q
      · exact hz g' (by omega)
    show wbX12_leadsOn_1 (wpX12_leadsOn (K + 1)) (K + 1) (sA t 7 F) li lj Q
    unfold wbX12_leadsOn_1
    refine ⟨fun c1 => absurd (show t.1 3 ≤ li 2 from c1) ?_, fun _ => ?_⟩
    · rw [hm, e2]; exact nI_ge (by omega) (by omega)
    · rw [e1, e2]
      refine ⟨fun c => nx (fun q => absurd ((nI_eq (by omega) (by omega)).mp c) q), fun c => ⟨vp_in_nI (by omega) (by decide), fun v3 f3 => ?_⟩⟩
      have hgf : g ≠ f := fun q => c (congrArg nI q)
      have f3 : v3 = F g := f3.trans (congrArg F (nI_clamp (by omega)))
      refine ⟨fun d => nx (fun _ q => absurd (f3.trans q) d), fun d => ⟨vp_in_nI (by omega) (by decide), fun v5 f5 => ?_⟩⟩
      have f5 : v5 = nI p := f5.trans ((congrArg (t.2.2.1 4) (nI_clamp (by omega))).trans ep)
      subst f5
      exact hm_isFace (t := sA t 7 F) (by omega) (by omega) (by omega) (fun y => ⟨fun z => absurd z (by decide), fun _ => h1 g (by omega) hgf (f3.symm.trans d) y⟩) (fun y => ⟨fun _ => nx (fun _ _ => y), fun z => absurd rfl z⟩)
theorem hm_leadsOn {t : XT} {m f p K : Nat} {F : Nat → Int32} {Q : Int32 → XT → Prop} (hm : t.1 3 = nI m) (hm60 : m ≤ 60) (hf : f < m) (hp : p < m) (ep : hm_par t f = nI p) (hK : 140 ≤ K)
    (h1 : ∀ g, g < m → g ≠ f → F g = 1 → hm_face t g p → Q 1 (sA t 7 F)) (h0 : (∀ g, g < m → g ≠ f → F g = 1 → ¬ hm_face t g p) → Q 0 (sA t 7 F)) : wqX12_leadsOn K (sA t 7 F) (nI f) Q := by
  obtain ⟨K, rfl⟩ : ∃ K', K = K' + 1 := ⟨K - 1, by omega⟩
  show wbX12_leadsOn_0 (wpX12_leadsOn K) K (sA t 7 F) (uI (fun _ => 0) 1 (nI f)) (fun _ => 0) Q
  exact hm_leads_go hm hm60 hf hp ep h1 h0 m 0 K _ (by omega) (by omega) rfl rfl (fun g' a => absurd a (by omega))
def hm_ones (m : Nat) (F : Nat → Int32) : Nat := hm_sum (fun k => if F k = 1 then 1 else 0) m
def hm_ainv (t : XT) (m : Nat) (F : Nat → Int32) : Prop :=
  (∀ k, k < m → F k = 1 → hm_low t k) ∧ (∀ k, k < m → F k = 0 ∨ F k = 1) ∧ ∃ (δ : Nat → Nat) (τ : Nat), τ + hm_ones m F ≤ 60 ∧ ∀ f, f < m → hm_low t f → F f = 0 → δ f < τ ∧ ∀ g, g < m → g ≠ f → hm_low t g → hm_on t f g → F g = 0 ∧ δ g < δ f
theorem hm_ainv_take {t : XT} {m f p : Nat} {F : Nat → Int32} (hm60 : m ≤ 60) (h : hm_ainv t m F) (hf : f < m) (h1 : F f = 1) (ep : hm_par t f = nI p) (hp : p < m) (no : ∀ g, g < m → g ≠ f → F g = 1 → ¬ hm_face t g p) : hm_ainv t m (upd F f 0) ∧ hm_ones m (upd F f 0) < hm_ones m F := by
  obtain ⟨a1, a2, δ, τ, a3, a4⟩ := h
  have less : hm_ones m (upd F f 0) < hm_ones m F := by
    refine hm_sum_lt m f hf ?_ (fun j hj => ?_)
    · show (if upd F f 0 f = 1 then 1 else 0) < (if F f = 1 then 1 else 0)
      rw [hm_upd_at, if_pos rfl, h1]; decide
    · show (if upd F f 0 j = 1 then 1 else 0) ≤ (if F j = 1 then 1 else 0)
      rw [hm_upd_at]
      by_cases e : j = f
      · rw [if_pos e, if_neg (show ¬ (0 : Int32) = 1 by decide)]; exact Nat.zero_le _
      · rw [if_neg e]; exact Nat.le_refl _
  refine ⟨⟨fun k hk q => ?_, fun k hk => ?_, fun j => if j = f then τ else δ j, τ + 1, by omega, fun k hk lk zk => ?_⟩, less⟩
  · rw [hm_upd_at] at q
    by_cases e : k = f
    · rw [if_pos e] at q; exact absurd q (by decide)
    · rw [if_neg e] at q; exact a1 k hk q
  · rw [hm_upd_at]
    by_cases e : k = f
    · rw [if_pos e]; exact Or.inl rfl
    · rw [if_neg e]; exact a2 k hk
  · rw [hm_upd_at] at zk
    by_cases e : k = f
    · subst e
      refine ⟨by show (if k = k then τ else δ k) < τ + 1; rw [if_pos rfl]; omega, fun g hg hgk lg og => ?_⟩
      obtain ⟨p', hp', ep', fg⟩ := og
      obtain rfl := (nI_eq (by omega) (by omega)).mp (ep.symm.trans ep')
      have zg : F g = 0 := (a2 g hg).elim id (fun q => absurd fg (no g hg hgk q))
      rw [hm_upd_at, if_neg hgk]
      show F g = 0 ∧ (if g = k then τ else δ g) < (if k = k then τ else δ k)
      rw [if_neg hgk, if_pos rfl]
      exact ⟨zg, (a4 g hg lg zg).1⟩
    · rw [if_neg e] at zk
      obtain ⟨b1, b2⟩ := a4 k hk lk zk
      refine ⟨by show (if k = f then τ else δ k) < τ + 1; rw [if_neg e]; omega, fun g hg hgk lg og => ?_⟩
      obtain ⟨c1, c2⟩ := b2 g hg hgk lg og
      have gf : g ≠ f := fun q => by rw [q, h1] at c1; exact absurd c1 (by decide)
      rw [hm_upd_at, if_neg gf]
      show F g = 0 ∧ (if g = f then τ else δ g) < (if k = f then τ else δ k)
      rw [if_neg gf, if_neg e]
      exact ⟨c1, c2⟩
theorem hm_acyc_end {t : XT} {m : Nat} {lj : Nat → Int64} {Q : Int32 → XT → Prop} {F : Nat → Int32} (hm : t.1 3 = nI m) (hm60 : m ≤ 60) (h1 : (∀ k, k < m → F k ≠ 1) → Q 1 (sA t 7 F)) (h0 : Q 0 (sA t 7 F)) :
    ∀ (n c K : Nat) (li : Nat → Int32), c + n = m → n + 1 ≤ K → li 2 = nI c → (∀ k, k < c → F k ≠ 1) → wpX12_isAcyclic K 5 (sA t 7 F) li lj Q := by
  intro n
  induction n with
  | zero =>
    intro c K li hn hK e2 hz
    obtain ⟨K, rfl⟩ : ∃ K', K = K' + 1 := ⟨K - 1, by omega⟩
    show wbX12_isAcyclic_5 (wpX12_isAcyclic K) K (sA t 7 F) li lj Q
    refine ⟨fun _ => h1 (fun k hk => hz k (by omega)), fun c1 => absurd (show t.1 3 ≤ li 2 from ?_) c1⟩
    rw [hm, e2]; exact nI_le (by omega) (by omega)
  | succ n ih =>
    intro c K li hn hK e2 hz
    obtain ⟨K, rfl⟩ : ∃ K', K = K' + 1 := ⟨K - 1, by omega⟩
    show wbX12_isAcyclic_5 (wpX12_isAcyclic K) K (sA t 7 F) li lj Q
    unfold wbX12_isAcyclic_5
    rw [e2]
    refine ⟨fun c1 => absurd (show t.1 3 ≤ nI c from c1) ?_, fun _ => ⟨vp_in_nI (by omega) (by decide), fun v15 f15 => ?_⟩⟩
    · rw [hm]; exact nI_ge (by omega) (by omega)
    · have f15 : v15 = F c := f15.trans (congrArg F (nI_clamp (by omega)))
      refine ⟨fun d v17 f17 => ?_, fun _ => h0⟩
      refine ih (c + 1) K _ (by omega) (by omega) (f17.trans (hs_inc c)) (fun k hk => ?_)
      by_cases e : k = c
      · rw [e]; exact fun q => d (f15.trans q)
      · exact hz k (by omega)
