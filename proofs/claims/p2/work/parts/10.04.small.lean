/-! ===== the reference's elimination, without the machine: sizes; the least number; what a pass leaves in its row and column ===== -/
def hs_n (x : Int64) : Nat := x.toInt.natAbs
theorem hs_n0 {x : Int64} : hs_n x = 0 ↔ x = 0 := by
  unfold hs_n
  rw [Int.natAbs_eq_zero]
  exact ⟨fun q => Int64.toInt_inj.mp (q.trans Int64.toInt_zero.symm), fun q => by rw [q]; exact Int64.toInt_zero⟩
theorem hs_min_ne {x : Int64} (h : x ≠ Int64.minValue) : -2 ^ 63 < x.toInt := by
  have a := Int64.le_toInt x
  rcases Int.lt_or_le (-2 ^ 63) x.toInt with b | b
  · exact b
  · exact absurd (Int64.toInt_inj.mp ((Int.le_antisymm b a).trans Int64.toInt_minValue.symm)) h
theorem hs_n_lt {x : Int64} (h : x ≠ Int64.minValue) : hs_n x < 2 ^ 63 := by
  have a := hs_min_ne h
  have b := Int64.toInt_lt x
  unfold hs_n
  omega
theorem hs_abs_n {x : Int64} (h : x ≠ Int64.minValue) : (hs_abs x).toInt = (hs_n x : Int) := by
  have a := hs_min_ne h
  have b := Int64.toInt_lt x
  unfold hs_abs hs_n
  by_cases c : 0 < x
  · rw [if_pos c]
    have d := Int64.lt_iff_toInt_lt.mp c
    rw [Int64.toInt_zero] at d
    omega
  · rw [if_neg c]
    have d : ¬ (0 : Int64).toInt < x.toInt := fun q => c (Int64.lt_iff_toInt_lt.mpr q)
    rw [Int64.toInt_zero] at d
    rw [Int64.toInt_neg, Int.bmod_eq_of_le (by omega) (by omega)]
    omega
theorem hs_abs_lt {x y : Int64} (hx : x ≠ Int64.minValue) (hy : y ≠ Int64.minValue) : hs_abs x < hs_abs y ↔ hs_n x < hs_n y := by
  rw [Int64.lt_iff_toInt_lt, hs_abs_n hx, hs_abs_n hy]
  omega
theorem hs_rem_eq (x a : Int64) : x + -(x / a) * a = hs_rem x a := by
  unfold hs_rem
  rw [Int64.neg_mul, Int64.sub_eq_add_neg]
theorem hs_rem_n {x a : Int64} (hx : x ≠ Int64.minValue) : hs_n (hs_rem x a) = hs_n x % hs_n a := by
  have b1 := hs_min_ne hx
  have b2 := Int64.toInt_lt x
  unfold hs_rem hs_n
  have q1 : (x / a).toInt = x.toInt.tdiv a.toInt := Int64.toInt_div_of_ne_left x a hx
  have q2 : (x.toInt.tdiv a.toInt * a.toInt).natAbs ≤ x.toInt.natAbs := by
    rw [Int.natAbs_mul, Int.natAbs_tdiv]
    exact Nat.div_mul_le_self _ _
  have q3 : (x / a * a).toInt = x.toInt.tdiv a.toInt * a.toInt := by
    rw [Int64.toInt_mul, q1]
    exact Int.bmod_eq_of_le (by omega) (by omega)
  have q5 : (x.toInt.tmod a.toInt).natAbs ≤ x.toInt.natAbs := by
    rw [Int.natAbs_tmod]
    exact Nat.mod_le _ _
  have q4 : (x - x / a * a).toInt = x.toInt.tmod a.toInt := by
    rw [Int64.toInt_sub, q3]
    have e := Int.tmod_add_tdiv_mul x.toInt a.toInt
    rw [show x.toInt - x.toInt.tdiv a.toInt * a.toInt = x.toInt.tmod a.toInt by omega]
    exact Int.bmod_eq_of_le (by omega) (by omega)
  rw [q4, Int.natAbs_tmod]
theorem hs_rem_lt {x a : Int64} (hx : x ≠ Int64.minValue) (ha : a ≠ 0) : hs_n (hs_rem x a) < hs_n a := by
  rw [hs_rem_n hx]
  exact Nat.mod_lt _ (Nat.pos_of_ne_zero (fun q => ha (hs_n0.mp q)))
def hs_inv (T : Nat → Int64) (S : Nat → Nat → Prop) (b : Option (Nat × Nat)) : Prop :=
  (∀ r c, S r c → T (60 * r + c) ≠ Int64.minValue) ∧ (b = none → ∀ r c, S r c → T (60 * r + c) = 0) ∧
  (∀ p, b = some p → S p.1 p.2 ∧ T (60 * p.1 + p.2) ≠ 0 ∧ ∀ r c, S r c → T (60 * r + c) ≠ 0 → hs_n (T (60 * p.1 + p.2)) ≤ hs_n (T (60 * r + c)))
theorem hs_inv_iff {T : Nat → Int64} {S S' : Nat → Nat → Prop} {b : Option (Nat × Nat)} (h : hs_inv T S b) (e : ∀ r c, S r c ↔ S' r c) : hs_inv T S' b :=
  ⟨fun r c q => h.1 r c ((e r c).mpr q), fun hb r c q => h.2.1 hb r c ((e r c).mpr q), fun p hp => ⟨(e _ _).mp (h.2.2 p hp).1, (h.2.2 p hp).2.1, fun r c q => (h.2.2 p hp).2.2 r c ((e r c).mpr q)⟩⟩
theorem hs_pick_inv {T : Nat → Int64} {S : Nat → Nat → Prop} {b : Option (Nat × Nat)} {r c : Nat} (hn : T (60 * r + c) ≠ Int64.minValue) (h : hs_inv T S b) : hs_inv T (fun r' c' => S r' c' ∨ (r' = r ∧ c' = c)) (hs_pick T b r c) := by
  have hm : ∀ r' c', (S r' c' ∨ (r' = r ∧ c' = c)) → T (60 * r' + c') ≠ Int64.minValue := by
    intro r' c' q
    rcases q with q | ⟨rfl, rfl⟩
    · exact h.1 r' c' q
    · exact hn
  cases b with
  | none =>
    have hz := h.2.1 rfl
    by_cases z : T (60 * r + c) = 0
    · rw [show hs_pick T none r c = none from if_pos z]
      refine ⟨hm, fun _ r' c' q => ?_, fun p hp => absurd hp (by simp)⟩
      rcases q with q | ⟨rfl, rfl⟩
      · exact hz r' c' q
      · exact z
    · rw [show hs_pick T none r c = some (r, c) from if_neg z]
      refine ⟨hm, fun q => absurd q (by simp), fun p hp => ?_⟩
      obtain rfl := Option.some.inj hp
      refine ⟨Or.inr ⟨rfl, rfl⟩, z, fun r' c' q y => ?_⟩
      rcases q with q | ⟨rfl, rfl⟩
      · exact absurd (hz r' c' q) y
      · exact Nat.le_refl _
  | some p =>
    obtain ⟨hp1, hp2, hp3⟩ := h.2.2 p rfl
    have hpm := h.1 _ _ hp1
    by_cases z : T (60 * r + c) ≠ 0 ∧ hs_abs (T (60 * r + c)) < hs_abs (T (60 * p.1 + p.2))
    · rw [show hs_pick T (some p) r c = some (r, c) from if_pos z]
      have lt := (hs_abs_lt hn hpm).mp z.2
      refine ⟨hm, fun q => absurd q (by simp), fun p' hp => ?_⟩
      obtain rfl := Option.some.inj hp
      refine ⟨Or.inr ⟨rfl, rfl⟩, z.1, fun r' c' q y => ?_⟩
      rcases q with q | ⟨rfl, rfl⟩
      · exact Nat.le_trans (Nat.le_of_lt lt) (hp3 r' c' q y)
      · exact Nat.le_refl _
    · rw [show hs_pick T (some p) r c = some p from if_neg z]
      refine ⟨hm, fun q => absurd q (by simp), fun p' hp => ?_⟩
      obtain rfl := Option.some.inj hp
      refine ⟨Or.inl hp1, hp2, fun r' c' q y => ?_⟩
      rcases q with q | ⟨rfl, rfl⟩
      · exact hp3 r' c' q y
      · exact Nat.le_of_not_lt (fun u => z ⟨y, (hs_abs_lt hn hpm).mpr u⟩)
theorem hs_scanC_inv {T : Nat → Int64} {r : Nat} : ∀ (n c : Nat) (S : Nat → Nat → Prop) (b : Option (Nat × Nat)), (∀ c', c ≤ c' → c' < c + n → T (60 * r + c') ≠ Int64.minValue) → hs_inv T S b → hs_inv T (fun r' c' => S r' c' ∨ (r' = r ∧ c ≤ c' ∧ c' < c + n)) (hs_scanC T r n c b) := by
  intro n
  induction n with
  | zero =>
    intro c S b hn h
    exact hs_inv_iff h (fun r' c' => ⟨Or.inl, fun q => q.elim id (fun u => by omega)⟩)
  | succ n ih =>
    intro c S b hn h
    refine hs_inv_iff (ih (c + 1) _ _ (fun c' a d => hn c' (by omega) (by omega)) (hs_pick_inv (hn c (by omega) (by omega)) h)) (fun r' c' => ?_)
    constructor
    · intro q
      rcases q with (q | q) | q
      · exact Or.inl q
      · exact Or.inr (by omega)
      · exact Or.inr (by omega)
    · intro q
      rcases q with q | q
      · exact Or.inl (Or.inl q)
      · by_cases e : c' = c
        · exact Or.inl (Or.inr ⟨q.1, e⟩)
        · exact Or.inr (by omega)
theorem hs_scanR_inv {T : Nat → Int64} {i w : Nat} (hiw : i ≤ w) : ∀ (n r : Nat) (S : Nat → Nat → Prop) (b : Option (Nat × Nat)), (∀ r' c', r ≤ r' → r' < r + n → i ≤ c' → c' < w → T (60 * r' + c') ≠ Int64.minValue) → hs_inv T S b → hs_inv T (fun r' c' => S r' c' ∨ (r ≤ r' ∧ r' < r + n ∧ i ≤ c' ∧ c' < w)) (hs_scanR T i w n r b) := by
  intro n
  induction n with
  | zero =>
    intro r S b hn h
    exact hs_inv_iff h (fun r' c' => ⟨Or.inl, fun q => q.elim id (fun u => by omega)⟩)
  | succ n ih =>
    intro r S b hn h
    refine hs_inv_iff (ih (r + 1) _ _ (fun r' c' a d e f => hn r' c' (by omega) (by omega) e f) (hs_scanC_inv (r := r) (w - i) i S b (fun c' a d => hn r c' (by omega) (by omega) a (by omega)) h)) (fun r' c' => ?_)
    constructor
    · intro q
      rcases q with (q | q) | q
      · exact Or.inl q
      · exact Or.inr (by omega)
      · exact Or.inr (by omega)
    · intro q
      rcases q with q | q
      · exact Or.inl (Or.inl q)
      · by_cases e : r' = r
        · exact Or.inl (Or.inr (by omega))
        · exact Or.inr (by omega)
def hs_nomin (T : Nat → Int64) (i h w : Nat) : Prop := ∀ r c, i ≤ r → r < h → i ≤ c → c < w → T (60 * r + c) ≠ Int64.minValue
theorem hs_least_inv {T : Nat → Int64} {i h w : Nat} (hih : i ≤ h) (hiw : i ≤ w) (hn : hs_nomin T i h w) : hs_inv T (fun r c => i ≤ r ∧ r < h ∧ i ≤ c ∧ c < w) (hs_least T i h w) := by
  refine hs_inv_iff (hs_scanR_inv hiw (h - i) i (fun _ _ => False) none (fun r c a b d e => hn r c a (by omega) d e) ⟨fun _ _ q => q.elim, fun _ _ _ q => q.elim, fun p hp => absurd hp (by simp)⟩) (fun r c => ?_)
  constructor
  · intro q
    rcases q with q | q
    · exact q.elim
    · omega
  · intro q
    exact Or.inr (by omega)
theorem hs_keep_C {T : Nat → Int64} {r : Nat} {p : Nat × Nat} : ∀ (n c : Nat), (∀ c', c ≤ c' → c' < c + n → T (60 * r + c') ≠ 0 → ¬ hs_abs (T (60 * r + c')) < hs_abs (T (60 * p.1 + p.2))) → hs_scanC T r n c (some p) = some p := by
  intro n
  induction n with
  | zero => intro c _; rfl
  | succ n ih =>
    intro c h
    show hs_scanC T r n (c + 1) (hs_pick T (some p) r c) = some p
    rw [show hs_pick T (some p) r c = some p from if_neg (fun q => h c (by omega) (by omega) q.1 q.2)]
    exact ih (c + 1) (fun c' a b => h c' (by omega) (by omega))
theorem hs_keep_R {T : Nat → Int64} {i w : Nat} {p : Nat × Nat} (hiw : i ≤ w) : ∀ (n r : Nat), (∀ r' c', r ≤ r' → r' < r + n → i ≤ c' → c' < w → T (60 * r' + c') ≠ 0 → ¬ hs_abs (T (60 * r' + c')) < hs_abs (T (60 * p.1 + p.2))) → hs_scanR T i w n r (some p) = some p := by
  intro n
  induction n with
  | zero => intro r _; rfl
  | succ n ih =>
    intro r h
    show hs_scanR T i w n (r + 1) (hs_scanC T r (w - i) i (some p)) = some p
    rw [hs_keep_C (w - i) i (fun c' a b => h r c' (by omega) (by omega) a (by omega))]
    exact ih (r + 1) (fun r' c' a b d e => h r' c' (by omega) (by omega) d e)
theorem hs_least_first {T : Nat → Int64} {i h w : Nat} (hih : i < h) (hiw : i < w) (hn : hs_nomin T i h w) (hz : T (60 * i + i) ≠ 0) (hm : ∀ r c, i ≤ r → r < h → i ≤ c → c < w → T (60 * r + c) ≠ 0 → hs_n (T (60 * i + i)) ≤ hs_n (T (60 * r + c))) : hs_least T i h w = some (i, i) := by
  have hh : ∀ r c, i ≤ r → r < h → i ≤ c → c < w → T (60 * r + c) ≠ 0 → ¬ hs_abs (T (60 * r + c)) < hs_abs (T (60 * i + i)) := by
    intro r c a b d e f q
    have u := (hs_abs_lt (hn r c a b d e) (hn i i (Nat.le_refl _) hih (Nat.le_refl _) hiw)).mp q
    have v := hm r c a b d e f
    omega
  unfold hs_least
  obtain ⟨n, hn'⟩ : ∃ n, h - i = n + 1 := ⟨h - i - 1, by omega⟩
  obtain ⟨m, hm'⟩ : ∃ m, w - i = m + 1 := ⟨w - i - 1, by omega⟩
  rw [hn']
  show hs_scanR T i w n (i + 1) (hs_scanC T i (w - i) i none) = some (i, i)
  rw [hm']
  show hs_scanR T i w n (i + 1) (hs_scanC T i m (i + 1) (hs_pick T none i i)) = some (i, i)
  rw [show hs_pick T none i i = some (i, i) from if_neg hz]
  rw [hs_keep_C (T := T) (r := i) (p := (i, i)) m (i + 1) (fun c' a b => hh i c' (Nat.le_refl _) hih (by omega) (by omega))]
  exact hs_keep_R (T := T) (p := (i, i)) (Nat.le_of_lt hiw) n (i + 1) (fun r' c' a b d e => hh r' c' (by omega) (by omega) d e)
