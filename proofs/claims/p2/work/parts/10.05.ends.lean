/-! ===== the reference's elimination ends wherever Long.MIN_VALUE is never met among what is left ===== -/
theorem hs_swapRow_at {w a b r c : Nat} {T : Nat → Int64} (hw : w ≤ 60) (hc : c < w) : hs_swapRow w a b T (60 * r + c) = if r = a then T (60 * b + c) else if r = b then T (60 * a + c) else T (60 * r + c) := by
  unfold hs_swapRow
  by_cases h : r = a
  · rw [if_pos (show 60 * a ≤ 60 * r + c ∧ 60 * r + c < 60 * a + w by omega), if_pos h, show 60 * b + (60 * r + c - 60 * a) = 60 * b + c by omega]
  · rw [if_neg (show ¬ (60 * a ≤ 60 * r + c ∧ 60 * r + c < 60 * a + w) by omega), if_neg h]
    by_cases h2 : r = b
    · rw [if_pos (show 60 * b ≤ 60 * r + c ∧ 60 * r + c < 60 * b + w by omega), if_pos h2, show 60 * a + (60 * r + c - 60 * b) = 60 * a + c by omega]
    · rw [if_neg (show ¬ (60 * b ≤ 60 * r + c ∧ 60 * r + c < 60 * b + w) by omega), if_neg h2]
theorem hs_swapCol_at {h a b r c : Nat} {T : Nat → Int64} (hr : r < h) (hc : c < 60) : hs_swapCol h a b T (60 * r + c) = if c = a then T (60 * r + b) else if c = b then T (60 * r + a) else T (60 * r + c) := by
  unfold hs_swapCol
  have e1 : (60 * r + c) / 60 = r := by omega
  have e2 : (60 * r + c) % 60 = c := by omega
  rw [e1, e2]
  by_cases h : c = a
  · rw [if_pos ⟨hr, h⟩, if_pos h]
  · rw [if_neg (fun q => h q.2), if_neg h]
    by_cases h2 : c = b
    · rw [if_pos ⟨hr, h2⟩, if_pos h2]
    · rw [if_neg (fun q => h2 q.2), if_neg h2]
def hs_bring (h w i : Nat) (p : Nat × Nat) (T : Nat → Int64) : Nat → Int64 := hs_swapCol h i p.2 (hs_swapRow w i p.1 T)
theorem hs_bring_at {h w i r c : Nat} {p : Nat × Nat} {T : Nat → Int64} (hh : h ≤ 60) (hw : w ≤ 60) (hi : i < h) (hiw : i < w) (hp : i ≤ p.1 ∧ p.1 < h ∧ i ≤ p.2 ∧ p.2 < w) (hr : i ≤ r ∧ r < h) (hc : i ≤ c ∧ c < w) :
    ∃ r' c', i ≤ r' ∧ r' < h ∧ i ≤ c' ∧ c' < w ∧ hs_bring h w i p T (60 * r + c) = T (60 * r' + c') := by
  have key : ∀ c', i ≤ c' → c' < w → ∃ r' c'', i ≤ r' ∧ r' < h ∧ i ≤ c'' ∧ c'' < w ∧ hs_swapRow w i p.1 T (60 * r + c') = T (60 * r' + c'') := by
    intro c' a b
    rw [hs_swapRow_at hw b]
    by_cases e : r = i
    · rw [if_pos e]; exact ⟨p.1, c', by omega, by omega, a, b, rfl⟩
    · rw [if_neg e]
      by_cases e2 : r = p.1
      · rw [if_pos e2]; exact ⟨i, c', by omega, by omega, a, b, rfl⟩
      · rw [if_neg e2]; exact ⟨r, c', by omega, by omega, a, b, rfl⟩
  unfold hs_bring
  rw [hs_swapCol_at hr.2 (by omega)]
  by_cases e : c = i
  · rw [if_pos e]; exact key p.2 (by omega) (by omega)
  · rw [if_neg e]
    by_cases e2 : c = p.2
    · rw [if_pos e2]; exact key i (by omega) (by omega)
    · rw [if_neg e2]; exact key c (by omega) (by omega)
theorem hs_bring_piv {h w i : Nat} {p : Nat × Nat} {T : Nat → Int64} (hh : h ≤ 60) (hw : w ≤ 60) (hi : i < h) (hiw : i < w) (hp : i ≤ p.1 ∧ p.1 < h ∧ i ≤ p.2 ∧ p.2 < w) : hs_bring h w i p T (60 * i + i) = T (60 * p.1 + p.2) := by
  unfold hs_bring
  rw [hs_swapCol_at hi (by omega), if_pos rfl, hs_swapRow_at hw (by omega), if_pos rfl]
theorem hs_bring_self {h w i : Nat} {T : Nat → Int64} (hh : h ≤ 60) (hw : w ≤ 60) (hi : i < h) (hiw : i < w) : hs_bring h w i (i, i) T = T := by
  funext j
  unfold hs_bring
  have q : hs_swapRow w i i T = T := by
    funext j
    unfold hs_swapRow
    by_cases e : 60 * i ≤ j ∧ j < 60 * i + w
    · rw [if_pos e, show 60 * i + (j - 60 * i) = j by omega]
    · rw [if_neg e, if_neg e]
  show hs_swapCol h i i (hs_swapRow w i i T) j = T j
  rw [q]
  unfold hs_swapCol
  by_cases e : j / 60 < h ∧ j % 60 = i
  · rw [if_pos e, show 60 * (j / 60) + i = j by omega]
  · rw [if_neg e, if_neg e]
theorem hs_clearR_row {w i : Nat} (hw : w ≤ 60) (hi : i < 60) : ∀ (n r : Nat) (T : Nat → Int64) (c : Nat), i < r → c < 60 → hs_clearR w i n r T (60 * i + c) = T (60 * i + c) := by
  intro n
  induction n with
  | zero => intro r T c _ _; rfl
  | succ n ih =>
    intro r T c hr hc
    show hs_clearR w i n (r + 1) _ (60 * i + c) = _
    rw [ih (r + 1) _ c (by omega) hc]
    exact if_neg (by omega)
theorem hs_clearR_col {w i : Nat} (hw : w ≤ 60) (hi : i < w) : ∀ (n r : Nat) (T : Nat → Int64) (r' : Nat), i < r → i < r' → hs_clearR w i n r T (60 * r' + i) = if r ≤ r' ∧ r' < r + n then hs_rem (T (60 * r' + i)) (T (60 * i + i)) else T (60 * r' + i) := by
  intro n
  induction n with
  | zero => intro r T r' _ _; exact (if_neg (by omega)).symm
  | succ n ih =>
    intro r T r' hr hr'
    show hs_clearR w i n (r + 1) _ (60 * r' + i) = _
    rw [ih (r + 1) _ r' (by omega) hr', hs_addRow_piv hw (by omega) (by omega)]
    by_cases e : r' = r
    · rw [if_neg (show ¬ (r + 1 ≤ r' ∧ r' < r + 1 + n) by omega), if_pos (show r ≤ r' ∧ r' < r + (n + 1) by omega), ← hs_rem_eq, e]
      unfold hs_addRow
      rw [if_pos (show 60 * r ≤ 60 * r + i ∧ 60 * r + i < 60 * r + w by omega), show 60 * i + (60 * r + i - 60 * r) = 60 * i + i by omega]
    · rw [show hs_addRow w r i (-(T (60 * r + i) / T (60 * i + i))) T (60 * r' + i) = T (60 * r' + i) from if_neg (by omega)]
      by_cases e2 : r + 1 ≤ r' ∧ r' < r + 1 + n
      · rw [if_pos e2, if_pos (show r ≤ r' ∧ r' < r + (n + 1) by omega)]
      · rw [if_neg e2, if_neg (show ¬ (r ≤ r' ∧ r' < r + (n + 1)) by omega)]
theorem hs_clearC_col {h i : Nat} (hi : i < 60) : ∀ (n c : Nat) (T : Nat → Int64) (r : Nat), i < c → c + n ≤ 60 → hs_clearC h i n c T (60 * r + i) = T (60 * r + i) := by
  intro n
  induction n with
  | zero => intro c T r _ _; rfl
  | succ n ih =>
    intro c T r hc hn
    show hs_clearC h i n (c + 1) _ (60 * r + i) = _
    rw [ih (c + 1) _ r (by omega) (by omega)]
    exact if_neg (by omega)
theorem hs_clearC_row {h i : Nat} (hh : h ≤ 60) (hi : i < h) : ∀ (n c : Nat) (T : Nat → Int64) (c' : Nat), i < c → c + n ≤ 60 → i < c' → c' < 60 → hs_clearC h i n c T (60 * i + c') = if c ≤ c' ∧ c' < c + n then hs_rem (T (60 * i + c')) (T (60 * i + i)) else T (60 * i + c') := by
  intro n
  induction n with
  | zero => intro c T c' _ _ _ _; exact (if_neg (by omega)).symm
  | succ n ih =>
    intro c T c' hc hn hc' h60
    show hs_clearC h i n (c + 1) _ (60 * i + c') = _
    rw [ih (c + 1) _ c' (by omega) (by omega) hc' h60, hs_addCol_piv (by omega) (by omega)]
    by_cases e : c' = c
    · rw [if_neg (show ¬ (c + 1 ≤ c' ∧ c' < c + 1 + n) by omega), if_pos (show c ≤ c' ∧ c' < c + (n + 1) by omega), ← hs_rem_eq, e]
      unfold hs_addCol
      rw [if_pos (show (60 * i + c) % 60 = c ∧ (60 * i + c) / 60 < h by omega), show (60 * i + c) / 60 = i by omega]
    · rw [show hs_addCol h c i (-(T (60 * i + c) / T (60 * i + i))) T (60 * i + c') = T (60 * i + c') from if_neg (by omega)]
      by_cases e2 : c + 1 ≤ c' ∧ c' < c + 1 + n
      · rw [if_pos e2, if_pos (show c ≤ c' ∧ c' < c + (n + 1) by omega)]
      · rw [if_neg e2, if_neg (show ¬ (c ≤ c' ∧ c' < c + (n + 1)) by omega)]
theorem hs_flagR_iff {w i : Nat} (hw : w ≤ 60) (hi : i < w) : ∀ (n r : Nat) (T : Nat → Int64) (f : Bool), i < r → (hs_flagR w i n r T f = true ↔ f = true ∧ ∀ r', r ≤ r' → r' < r + n → hs_rem (T (60 * r' + i)) (T (60 * i + i)) = 0) := by
  intro n
  induction n with
  | zero => intro r T f _; exact ⟨fun q => ⟨q, fun r' a b => absurd b (by omega)⟩, fun q => q.1⟩
  | succ n ih =>
    intro r T f hr
    show hs_flagR w i n (r + 1) (hs_addRow w r i (-(T (60 * r + i) / T (60 * i + i))) T) _ = true ↔ _
    have e0 : hs_addRow w r i (-(T (60 * r + i) / T (60 * i + i))) T (60 * r + i) = hs_rem (T (60 * r + i)) (T (60 * i + i)) := by
      rw [← hs_rem_eq]
      unfold hs_addRow
      rw [if_pos (show 60 * r ≤ 60 * r + i ∧ 60 * r + i < 60 * r + w by omega), show 60 * i + (60 * r + i - 60 * r) = 60 * i + i by omega]
    rw [ih (r + 1) _ _ (by omega), hs_addRow_piv hw (by omega) (by omega), e0, Bool.and_eq_true, decide_eq_true_iff]
    have e1 : ∀ r', r + 1 ≤ r' → hs_addRow w r i (-(T (60 * r + i) / T (60 * i + i))) T (60 * r' + i) = T (60 * r' + i) := fun r' a => if_neg (by omega)
    constructor
    · intro q
      refine ⟨q.1.1, fun r' a b => ?_⟩
      by_cases e : r' = r
      · rw [e]; exact q.1.2
      · have u := q.2 r' (by omega) (by omega)
        rw [e1 r' (by omega)] at u
        exact u
    · intro q
      refine ⟨⟨q.1, q.2 r (by omega) (by omega)⟩, fun r' a b => ?_⟩
      rw [e1 r' a]
      exact q.2 r' (by omega) (by omega)
theorem hs_flagC_iff {h i : Nat} (hh : h ≤ 60) (hi : i < h) : ∀ (n c : Nat) (T : Nat → Int64) (f : Bool), i < c → c + n ≤ 60 → (hs_flagC h i n c T f = true ↔ f = true ∧ ∀ c', c ≤ c' → c' < c + n → hs_rem (T (60 * i + c')) (T (60 * i + i)) = 0) := by
  intro n
  induction n with
  | zero => intro c T f _ _; exact ⟨fun q => ⟨q, fun c' a b => absurd b (by omega)⟩, fun q => q.1⟩
  | succ n ih =>
    intro c T f hc hn
    show hs_flagC h i n (c + 1) (hs_addCol h c i (-(T (60 * i + c) / T (60 * i + i))) T) _ = true ↔ _
    have e0 : hs_addCol h c i (-(T (60 * i + c) / T (60 * i + i))) T (60 * i + c) = hs_rem (T (60 * i + c)) (T (60 * i + i)) := by
      rw [← hs_rem_eq]
      unfold hs_addCol
      rw [if_pos (show (60 * i + c) % 60 = c ∧ (60 * i + c) / 60 < h by omega), show (60 * i + c) / 60 = i by omega]
    rw [ih (c + 1) _ _ (by omega) (by omega), hs_addCol_piv (by omega) (by omega), e0, Bool.and_eq_true, decide_eq_true_iff]
    have e1 : ∀ c', c + 1 ≤ c' → c' < 60 → hs_addCol h c i (-(T (60 * i + c) / T (60 * i + i))) T (60 * i + c') = T (60 * i + c') := fun c' a b => if_neg (by omega)
    constructor
    · intro q
      refine ⟨q.1.1, fun c' a b => ?_⟩
      by_cases e : c' = c
      · rw [e]; exact q.1.2
      · have u := q.2 c' (by omega) (by omega)
        rw [e1 c' (by omega) (by omega)] at u
        exact u
    · intro q
      refine ⟨⟨q.1, q.2 c (by omega) (by omega)⟩, fun c' a b => ?_⟩
      rw [e1 c' a (by omega)]
      exact q.2 c' (by omega) (by omega)
theorem hs_clearT_piv {h w i : Nat} {T : Nat → Int64} (hw : w ≤ 60) (hiw : i < w) : hs_clearT h w i T (60 * i + i) = T (60 * i + i) := by
  unfold hs_clearT
  rw [hs_clearC_col (by omega) _ _ _ i (by omega) (by omega), hs_clearR_piv hw (by omega) _ _ _ (by omega)]
theorem hs_clearT_col {h w i r : Nat} {T : Nat → Int64} (hw : w ≤ 60) (hiw : i < w) (hr : i < r) (hrh : r < h) : hs_clearT h w i T (60 * r + i) = hs_rem (T (60 * r + i)) (T (60 * i + i)) := by
  unfold hs_clearT
  rw [hs_clearC_col (by omega) _ _ _ r (by omega) (by omega), hs_clearR_col hw hiw _ _ _ r (by omega) hr, if_pos (by omega)]
theorem hs_clearT_row {h w i c : Nat} {T : Nat → Int64} (hh : h ≤ 60) (hw : w ≤ 60) (hih : i < h) (hiw : i < w) (hc : i < c) (hcw : c < w) : hs_clearT h w i T (60 * i + c) = hs_rem (T (60 * i + c)) (T (60 * i + i)) := by
  unfold hs_clearT
  rw [hs_clearC_row hh hih _ _ _ c (by omega) (by omega) hc (by omega), if_pos (by omega), hs_clearR_row hw (by omega) _ _ _ c (by omega) (by omega), hs_clearR_piv hw (by omega) _ _ _ (by omega)]
theorem hs_clearF_iff {h w i : Nat} {T : Nat → Int64} (hh : h ≤ 60) (hw : w ≤ 60) (hih : i < h) (hiw : i < w) : hs_clearF h w i T = true ↔ (∀ r, i < r → r < h → hs_rem (T (60 * r + i)) (T (60 * i + i)) = 0) ∧ ∀ c, i < c → c < w → hs_rem (T (60 * i + c)) (T (60 * i + i)) = 0 := by
  unfold hs_clearF
  rw [hs_flagC_iff hh hih _ _ _ _ (by omega) (by omega), hs_flagR_iff hw hiw _ _ _ _ (by omega), hs_clearR_piv hw (by omega) _ _ _ (by omega)]
  constructor
  · intro q
    refine ⟨fun r a b => q.1.2 r (by omega) (by omega), fun c a b => ?_⟩
    have u := q.2 c (by omega) (by omega)
    rw [hs_clearR_row hw (by omega) _ _ _ c (by omega) (by omega)] at u
    exact u
  · intro q
    refine ⟨⟨rfl, fun r a b => q.1 r (by omega) (by omega)⟩, fun c a b => ?_⟩
    rw [hs_clearR_row hw (by omega) _ _ _ c (by omega) (by omega)]
    exact q.2 c (by omega) (by omega)
