/-! ===== how many PATHS go on from a FACE: what it is, that there is such, and one alone ===== -/
def hwf (t : XT) (m e : Nat) (A : Nat → Nat) : Prop :=
  (∀ k p, k < m → p < m → hq_goes t e k → hm_par t k = nI p → A k = hq_tot t m k p A) ∧ (∀ k, k < m → ¬ hq_goes t e k → A k = if k = e then 1 else 0)
theorem hwf_eq {t : XT} {m e : Nat} {A A' : Nat → Nat} (hm60 : m ≤ 60) (hM : hm_match t m) (hA : hm_acyc t m) (h : hwf t m e A) (h' : hwf t m e A') : ∀ k, k < m → A k = A' k := by
  obtain ⟨δ, d1, d2⟩ := hA
  have low : ∀ (n k : Nat), k < m → hq_goes t e k → δ k < n → A k = A' k := by
    intro n
    induction n with
    | zero => intro k _ _ h; omega
    | succ n ih =>
      intro k hk go hd
      obtain ⟨p, hp, ep⟩ := hm_match_pars hM k hk go.2.2.1
      rw [h.1 k p hk hp go ep, h'.1 k p hk hp go ep]
      refine hq_sum_eq m (fun g hg => ?_)
      show hq_sel (g ≠ k ∧ hm_faceT t g p) (A g) = hq_sel (g ≠ k ∧ hm_faceT t g p) (A' g)
      by_cases x : g ≠ k ∧ hm_faceT t g p
      · rw [hq_sel1 x, hq_sel1 x]
        by_cases y : hq_goes t e g
        · have w := d2 k g hk hg go.2.2.1 y.2.2.1 x.1 ⟨p, by omega, ep, x.2.2.2⟩
          exact ih g hg y (by omega)
        · rw [h.2 g hg y, h'.2 g hg y]
      · rw [hq_sel0 x, hq_sel0 x]
  intro k hk
  by_cases y : hq_goes t e k
  · exact low (δ k + 1) k hk y (by omega)
  · rw [h.2 k hk y, h'.2 k hk y]
noncomputable def hwi (t : XT) (m e : Nat) : Nat → Nat → Nat
  | 0 => fun x => if x = e then 1 else 0
  | n + 1 => fun x => @ite Nat (hq_goes t e x) (Classical.propDecidable _) (hq_tot t m x (hm_par t x).toNatClampNeg (hwi t m e n)) (if x = e then 1 else 0)
theorem hwi_no {t : XT} {m e x : Nat} (h : ¬ hq_goes t e x) : ∀ n, hwi t m e n x = if x = e then 1 else 0
  | 0 => rfl
  | n + 1 => @if_neg _ (Classical.propDecidable _) h Nat _ _
theorem hwi_go {t : XT} {m e x n p : Nat} (h : hq_goes t e x) (hp : p < 60) (ep : hm_par t x = nI p) : hwi t m e (n + 1) x = hq_tot t m x p (hwi t m e n) := by
  have w : hwi t m e (n + 1) x = hq_tot t m x (hm_par t x).toNatClampNeg (hwi t m e n) := @if_pos _ (Classical.propDecidable _) h Nat _ _
  rw [w, ep, nI_clamp (by omega)]
theorem hwf_ex {t : XT} {m : Nat} (e : Nat) (hm60 : m ≤ 60) (hM : hm_match t m) (hA : hm_acyc t m) : ∃ A, hwf t m e A := by
  obtain ⟨δ, d1, d2⟩ := hA
  have key : ∀ n k x, x < m → (hq_goes t e x → δ x < n) → n ≤ k → hwi t m e k x = hwi t m e n x := by
    intro n
    induction n with
    | zero =>
      intro k x hx h _
      have no : ¬ hq_goes t e x := fun z => absurd (h z) (by omega)
      rw [hwi_no no, hwi_no no]
    | succ n ih =>
      intro k x hx h hk
      obtain ⟨k, rfl⟩ : ∃ k', k = k' + 1 := ⟨k - 1, by omega⟩
      by_cases go : hq_goes t e x
      · obtain ⟨p, hp, ep⟩ := hm_match_pars hM x hx go.2.2.1
        rw [hwi_go go (by omega) ep, hwi_go go (by omega) ep]
        refine hq_sum_eq m (fun g hg => ?_)
        show hq_sel (g ≠ x ∧ hm_faceT t g p) (hwi t m e k g) = hq_sel (g ≠ x ∧ hm_faceT t g p) (hwi t m e n g)
        by_cases q : g ≠ x ∧ hm_faceT t g p
        · rw [ih k g hg (fun gg => by
            have := d2 x g hx hg go.2.2.1 gg.2.2.1 q.1 ⟨p, by omega, ep, q.2.2.2⟩
            have := h go
            omega) (by omega)]
        · rw [hq_sel0 q, hq_sel0 q]
      · rw [hwi_no go, hwi_no go]
  refine ⟨hwi t m e 60, fun k p hk hp go ep => ?_, fun k _ no => hwi_no no 60⟩
  rw [← hwi_go go (by omega) ep]
  exact (key 60 61 k hk (fun z => d1 k hk z.2.2.1) (by omega)).symm
