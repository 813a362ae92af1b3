/-! ===== hs_ends: laysSteps ends on every table from which Long.MIN_VALUE is never met among what is left; P says which tables are met ===== -/
theorem hs_fall {i h w a : Nat} {T : Nat → Int64} {p : Nat × Nat} (hh60 : h ≤ 60) (hw60 : w ≤ 60) (hih : i < h) (hiw : i < w) (hn : hs_nomin T i h w) (hl : hs_least T i h w = some p) (ha : hs_n (T (60 * p.1 + p.2)) ≤ a)
    (hf : hs_clearF h w i (hs_bring h w i p T) = false) (hn2 : hs_nomin (hs_clearT h w i (hs_bring h w i p T)) i h w) : ∀ p', hs_least (hs_clearT h w i (hs_bring h w i p T)) i h w = some p' → hs_n (hs_clearT h w i (hs_bring h w i p T) (60 * p'.1 + p'.2)) < a := by
  intro p' hp'
  have hp := (hs_least_inv (Nat.le_of_lt hih) (Nat.le_of_lt hiw) hn).2.2 p hl
  have hq := (hs_least_inv (Nat.le_of_lt hih) (Nat.le_of_lt hiw) hn2).2.2 p' hp'
  have epiv : hs_bring h w i p T (60 * i + i) = T (60 * p.1 + p.2) := hs_bring_piv hh60 hw60 hih hiw hp.1
  have hpiv : hs_bring h w i p T (60 * i + i) ≠ 0 := by rw [epiv]; exact hp.2.1
  have nm : ∀ r c, i ≤ r → r < h → i ≤ c → c < w → hs_bring h w i p T (60 * r + c) ≠ Int64.minValue := by
    intro r c a1 a2 a3 a4
    obtain ⟨r', c', b1, b2, b3, b4, b5⟩ := hs_bring_at (T := T) hh60 hw60 hih hiw hp.1 ⟨a1, a2⟩ ⟨a3, a4⟩
    rw [b5]; exact hn r' c' b1 b2 b3 b4
  have key : ∃ r c, i ≤ r ∧ r < h ∧ i ≤ c ∧ c < w ∧ hs_clearT h w i (hs_bring h w i p T) (60 * r + c) ≠ 0 ∧ hs_n (hs_clearT h w i (hs_bring h w i p T) (60 * r + c)) < hs_n (T (60 * p.1 + p.2)) := by
    refine Classical.byContradiction (fun no => ?_)
    have y : hs_clearF h w i (hs_bring h w i p T) = true := by
      refine (hs_clearF_iff hh60 hw60 hih hiw).mpr ⟨fun r b1 b2 => ?_, fun c b1 b2 => ?_⟩
      · refine Classical.byContradiction (fun z => no ⟨r, i, by omega, b2, Nat.le_refl _, hiw, ?_, ?_⟩)
        · rw [hs_clearT_col hw60 hiw b1 b2]; exact z
        · rw [hs_clearT_col hw60 hiw b1 b2, ← epiv]; exact hs_rem_lt (nm r i (by omega) b2 (Nat.le_refl _) hiw) hpiv
      · refine Classical.byContradiction (fun z => no ⟨i, c, Nat.le_refl _, hih, by omega, b2, ?_, ?_⟩)
        · rw [hs_clearT_row hh60 hw60 hih hiw b1 b2]; exact z
        · rw [hs_clearT_row hh60 hw60 hih hiw b1 b2, ← epiv]; exact hs_rem_lt (nm i c (Nat.le_refl _) hih (by omega) b2) hpiv
    rw [y] at hf
    exact absurd hf (by decide)
  obtain ⟨r, c, b1, b2, b3, b4, b5, b6⟩ := key
  have u := hq.2.2 r c ⟨b1, b2, b3, b4⟩ b5
  omega
theorem hs_ends_in {t : XT} {Q : Int32 → XT → Prop} {i h w : Nat} (P : Nat → (Nat → Int64) → Prop) (hh : t.1 6 = nI h) (hw : t.1 7 = nI w) (hh60 : h ≤ 60) (hw60 : w ≤ 60) (hi : i ≤ 60)
    (hQ : ∀ (n : Nat) (T S : Nat → Int64), n ≤ 60 → Q (nI n) (hs_st t T S))
    (hP0 : ∀ T, P i T → hs_nomin T i h w)
    (hP1 : ∀ T p, P i T → i < h → i < w → hs_least T i h w = some p → hs_clearF h w i (hs_bring h w i p T) = false → P i (hs_clearT h w i (hs_bring h w i p T)))
    (hP2 : ∀ T p r c, P i T → i < h → i < w → hs_least T i h w = some p → hs_clearF h w i (hs_bring h w i p T) = true → i < r → r < h → i < c → c < w → hs_rem (hs_clearT h w i (hs_bring h w i p T) (60 * r + c)) (hs_clearT h w i (hs_bring h w i p T) (60 * i + i)) ≠ 0 → P i (hs_addRow w i r 1 (hs_clearT h w i (hs_bring h w i p T))))
    (hP3 : ∀ T p, P i T → i < h → i < w → hs_least T i h w = some p → hs_clearF h w i (hs_bring h w i p T) = true → (∀ r c, i < r → r < h → i < c → c < w → hs_rem (hs_clearT h w i (hs_bring h w i p T) (60 * r + c)) (hs_clearT h w i (hs_bring h w i p T) (60 * i + i)) = 0) → hs_go t Q (i + 1) (hs_clearT h w i (hs_bring h w i p T))) :
    ∀ (a : Nat) (T : Nat → Int64), P i T → (∀ p, hs_least T i h w = some p → hs_n (T (60 * p.1 + p.2)) ≤ a) → hs_go t Q i T := by
  intro a
  induction a with
  | zero =>
    intro T hT hb
    refine hs_pass hh hw hh60 hw60 hi (hP0 T hT) hQ (fun p a b d _ => ?_) (fun p r c a b d _ _ _ _ _ _ => ?_) (fun p a b d e f => hP3 T p hT a b d e f)
    · have u := (hs_least_inv (Nat.le_of_lt a) (Nat.le_of_lt b) (hP0 T hT)).2.2 p d
      exact absurd (hs_n0.mp (Nat.le_zero.mp (hb p d))) u.2.1
    · have u := (hs_least_inv (Nat.le_of_lt a) (Nat.le_of_lt b) (hP0 T hT)).2.2 p d
      exact absurd (hs_n0.mp (Nat.le_zero.mp (hb p d))) u.2.1
  | succ a ih =>
    intro T hT hb
    have fall : ∀ (T : Nat → Int64) p, P i T → i < h → i < w → hs_least T i h w = some p → hs_n (T (60 * p.1 + p.2)) ≤ a + 1 → hs_clearF h w i (hs_bring h w i p T) = false → hs_go t Q i (hs_clearT h w i (hs_bring h w i p T)) := by
      intro T p hT b d e f g
      have hT2 := hP1 T p hT b d e g
      exact ih _ hT2 (fun p' hp' => Nat.le_of_lt_succ (hs_fall hh60 hw60 b d (hP0 T hT) e f g (hP0 _ hT2) p' hp'))
    refine hs_pass hh hw hh60 hw60 hi (hP0 T hT) hQ (fun p b d e f => fall T p hT b d e (hb p e) f) (fun p r c b d e f r1 r2 c1 c2 z => ?_) (fun p b d e f g => hP3 T p hT b d e f g)
    -- the row of an undivided number comes into the pivot's row: the pass behind it fails
    have hp := (hs_least_inv (Nat.le_of_lt b) (Nat.le_of_lt d) (hP0 T hT)).2.2 p e
    have epiv : hs_bring h w i p T (60 * i + i) = T (60 * p.1 + p.2) := hs_bring_piv hh60 hw60 b d hp.1
    have cl := (hs_clearF_iff hh60 hw60 b d).mp f
    have hT3 := hP2 T p r c hT b d e f r1 r2 c1 c2 z
    have n3 := hP0 _ hT3
    have v1 : hs_clearT h w i (hs_bring h w i p T) (60 * i + i) = T (60 * p.1 + p.2) := (hs_clearT_piv hw60 d).trans epiv
    have v2 : hs_addRow w i r 1 (hs_clearT h w i (hs_bring h w i p T)) (60 * i + i) = T (60 * p.1 + p.2) := by
      unfold hs_addRow
      rw [if_pos (show 60 * i ≤ 60 * i + i ∧ 60 * i + i < 60 * i + w by omega), show 60 * r + (60 * i + i - 60 * i) = 60 * r + i by omega, hs_clearT_col hw60 d r1 r2, cl.1 r r1 r2, v1, Int64.mul_zero, Int64.add_zero]
    have v3 : hs_addRow w i r 1 (hs_clearT h w i (hs_bring h w i p T)) (60 * i + c) = hs_clearT h w i (hs_bring h w i p T) (60 * r + c) := by
      unfold hs_addRow
      rw [if_pos (show 60 * i ≤ 60 * i + c ∧ 60 * i + c < 60 * i + w by omega), show 60 * r + (60 * i + c - 60 * i) = 60 * r + c by omega, hs_clearT_row hh60 hw60 b d c1 c2, cl.2 c c1 c2, Int64.one_mul, Int64.zero_add]
    have hz : hs_addRow w i r 1 (hs_clearT h w i (hs_bring h w i p T)) (60 * i + i) ≠ 0 := by rw [v2]; exact hp.2.1
    by_cases small : ∃ r' c', i ≤ r' ∧ r' < h ∧ i ≤ c' ∧ c' < w ∧ hs_addRow w i r 1 (hs_clearT h w i (hs_bring h w i p T)) (60 * r' + c') ≠ 0 ∧ hs_n (hs_addRow w i r 1 (hs_clearT h w i (hs_bring h w i p T)) (60 * r' + c')) < hs_n (T (60 * p.1 + p.2))
    · obtain ⟨r', c', s1, s2, s3, s4, s5, s6⟩ := small
      refine ih _ hT3 (fun p' hp' => ?_)
      have u := ((hs_least_inv (Nat.le_of_lt b) (Nat.le_of_lt d) n3).2.2 p' hp').2.2 r' c' ⟨s1, s2, s3, s4⟩ s5
      have v := hb p e
      omega
    · have first : hs_least (hs_addRow w i r 1 (hs_clearT h w i (hs_bring h w i p T))) i h w = some (i, i) := by
        refine hs_least_first b d n3 hz (fun r' c' s1 s2 s3 s4 s5 => ?_)
        rw [v2]
        exact Nat.le_of_not_lt (fun s6 => small ⟨r', c', s1, s2, s3, s4, s5, s6⟩)
      have fl : hs_clearF h w i (hs_addRow w i r 1 (hs_clearT h w i (hs_bring h w i p T))) = false := by
        refine Bool.eq_false_iff.mpr (fun q => z ?_)
        have u := ((hs_clearF_iff hh60 hw60 b d).mp q).2 c c1 c2
        rw [v3, v2] at u
        rw [v1]; exact u
      have self : hs_bring h w i (i, i) (hs_addRow w i r 1 (hs_clearT h w i (hs_bring h w i p T))) = hs_addRow w i r 1 (hs_clearT h w i (hs_bring h w i p T)) := hs_bring_self hh60 hw60 b d
      refine hs_pass hh hw hh60 hw60 hi n3 hQ (fun p' b' d' e' f' => ?_) (fun p' r' c' b' d' e' f' _ _ _ _ _ => ?_) (fun p' b' d' e' f' _ => ?_)
      · obtain rfl := Option.some.inj (first.symm.trans e')
        refine fall _ (i, i) hT3 b' d' first ?_ f'
        show hs_n (hs_addRow w i r 1 (hs_clearT h w i (hs_bring h w i p T)) (60 * i + i)) ≤ a + 1
        rw [v2]; exact hb p e
      · obtain rfl := Option.some.inj (first.symm.trans e')
        rw [self, fl] at f'
        exact absurd f' (by decide)
      · obtain rfl := Option.some.inj (first.symm.trans e')
        rw [self, fl] at f'
        exact absurd f' (by decide)
theorem hs_ends_all {t : XT} {Q : Int32 → XT → Prop} {h w : Nat} (P : Nat → (Nat → Int64) → Prop) (hh : t.1 6 = nI h) (hw : t.1 7 = nI w) (hh60 : h ≤ 60) (hw60 : w ≤ 60)
    (hQ : ∀ (n : Nat) (T S : Nat → Int64), n ≤ 60 → Q (nI n) (hs_st t T S))
    (hP0 : ∀ i T, P i T → hs_nomin T i h w)
    (hP1 : ∀ i T p, P i T → i < h → i < w → hs_least T i h w = some p → hs_clearF h w i (hs_bring h w i p T) = false → P i (hs_clearT h w i (hs_bring h w i p T)))
    (hP2 : ∀ i T p r c, P i T → i < h → i < w → hs_least T i h w = some p → hs_clearF h w i (hs_bring h w i p T) = true → i < r → r < h → i < c → c < w → hs_rem (hs_clearT h w i (hs_bring h w i p T) (60 * r + c)) (hs_clearT h w i (hs_bring h w i p T) (60 * i + i)) ≠ 0 → P i (hs_addRow w i r 1 (hs_clearT h w i (hs_bring h w i p T))))
    (hP3 : ∀ i T p, P i T → i < h → i < w → hs_least T i h w = some p → hs_clearF h w i (hs_bring h w i p T) = true → (∀ r c, i < r → r < h → i < c → c < w → hs_rem (hs_clearT h w i (hs_bring h w i p T) (60 * r + c)) (hs_clearT h w i (hs_bring h w i p T) (60 * i + i)) = 0) → P (i + 1) (hs_clearT h w i (hs_bring h w i p T))) :
    ∀ (m i : Nat) (T : Nat → Int64), i + m = 60 → P i T → hs_go t Q i T := by
  have bound : ∀ i T, P i T → i < h → i < w → ∃ a, ∀ p, hs_least T i h w = some p → hs_n (T (60 * p.1 + p.2)) ≤ a := by
    intro i T hT a b
    refine ⟨2 ^ 63, fun p hp => ?_⟩
    have u := (hs_least_inv (Nat.le_of_lt a) (Nat.le_of_lt b) (hP0 i T hT)).2.2 p hp
    exact Nat.le_of_lt (hs_n_lt (hP0 i T hT p.1 p.2 u.1.1 u.1.2.1 u.1.2.2.1 u.1.2.2.2))
  intro m
  induction m with
  | zero =>
    intro i T hm hT
    refine hs_pass hh hw hh60 hw60 (by omega) (hP0 i T hT) hQ (fun p a _ _ _ => absurd a (by omega)) (fun p r c a _ _ _ _ _ _ _ _ => absurd a (by omega)) (fun p a _ _ _ _ => absurd a (by omega))
  | succ m ih =>
    intro i T hm hT
    by_cases c : i < h ∧ i < w
    · obtain ⟨a, ha⟩ := bound i T hT c.1 c.2
      exact hs_ends_in P hh hw hh60 hw60 (by omega) hQ (hP0 i) (hP1 i) (hP2 i) (fun T p hT a b d e f => ih (i + 1) _ (by omega) (hP3 i T p hT a b d e f)) a T hT ha
    · exact hs_pass hh hw hh60 hw60 (by omega) (hP0 i T hT) hQ (fun p a b _ _ => absurd ⟨a, b⟩ c) (fun p r c' a b _ _ _ _ _ _ _ => absurd ⟨a, b⟩ c) (fun p a b _ _ _ => absurd ⟨a, b⟩ c)
theorem hs_ends {t : XT} {Q : Int32 → XT → Prop} {h w : Nat} (P : Nat → (Nat → Int64) → Prop) (hh : t.1 6 = nI h) (hw : t.1 7 = nI w) (hh60 : h ≤ 60) (hw60 : w ≤ 60) (h0 : P 0 (t.2.2.2 4))
    (hQ : ∀ (n : Nat) (T S : Nat → Int64), n ≤ 60 → Q (nI n) (hs_st t T S))
    (hP0 : ∀ i T, P i T → hs_nomin T i h w)
    (hP1 : ∀ i T p, P i T → i < h → i < w → hs_least T i h w = some p → hs_clearF h w i (hs_bring h w i p T) = false → P i (hs_clearT h w i (hs_bring h w i p T)))
    (hP2 : ∀ i T p r c, P i T → i < h → i < w → hs_least T i h w = some p → hs_clearF h w i (hs_bring h w i p T) = true → i < r → r < h → i < c → c < w → hs_rem (hs_clearT h w i (hs_bring h w i p T) (60 * r + c)) (hs_clearT h w i (hs_bring h w i p T) (60 * i + i)) ≠ 0 → P i (hs_addRow w i r 1 (hs_clearT h w i (hs_bring h w i p T))))
    (hP3 : ∀ i T p, P i T → i < h → i < w → hs_least T i h w = some p → hs_clearF h w i (hs_bring h w i p T) = true → (∀ r c, i < r → r < h → i < c → c < w → hs_rem (hs_clearT h w i (hs_bring h w i p T) (60 * r + c)) (hs_clearT h w i (hs_bring h w i p T) (60 * i + i)) = 0) → P (i + 1) (hs_clearT h w i (hs_bring h w i p T))) :
    ∃ k, wqX12_laysSteps k t Q := by
  obtain ⟨K0, hK0⟩ := hs_ends_all P hh hw hh60 hw60 hQ hP0 hP1 hP2 hP3 60 0 (t.2.2.2 4) rfl h0
  refine ⟨K0 + 1, ?_⟩
  show wbX12_laysSteps_0 (wpX12_laysSteps K0) K0 t (fun _ => 0) (fun _ => 0) Q
  have e : hs_st t (t.2.2.2 4) (t.2.2.2 5) = t := by
    unfold hs_st sB uI
    refine Prod.ext rfl (Prod.ext rfl (Prod.ext rfl ?_))
    funext j
    show cond (Nat.beq j 4) (t.2.2.2 4) (cond (Nat.beq j 5) (t.2.2.2 5) (t.2.2.2 j)) = t.2.2.2 j
    cases h4 : Nat.beq j 4 with
    | true => rw [Nat.eq_of_beq_eq_true h4]; rfl
    | false =>
      cases h5 : Nat.beq j 5 with
      | true => rw [Nat.eq_of_beq_eq_true h5]; rfl
      | false => rfl
  have g := hK0 K0 (t.2.2.2 5) (uI (fun _ => 0) 1 0) (fun _ => 0) (Nat.le_refl _) rfl
  rw [e] at g
  exact g
