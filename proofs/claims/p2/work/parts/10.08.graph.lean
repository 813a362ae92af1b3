/-! ===== what is left behind a pass whose pivot divides its column; tables whose rows are a letter less a letter (the BOUNDARY of DIM 1): laysSteps ends on them ===== -/
theorem hs_clearR_at {w i : Nat} (hw : w ≤ 60) (hi : i < w) : ∀ (n r : Nat) (T : Nat → Int64) (r' c : Nat), i < r → i < r' → c < w → hs_clearR w i n r T (60 * r' + c) = if r ≤ r' ∧ r' < r + n then T (60 * r' + c) + -(T (60 * r' + i) / T (60 * i + i)) * T (60 * i + c) else T (60 * r' + c) := by
  intro n
  induction n with
  | zero => intro r T r' c _ _ _; exact (if_neg (by omega)).symm
  | succ n ih =>
    intro r T r' c hr hr' hc
    show hs_clearR w i n (r + 1) _ (60 * r' + c) = _
    rw [ih (r + 1) _ r' c (by omega) hr' hc, hs_addRow_piv hw (by omega) (by omega)]
    have a1 : hs_addRow w r i (-(T (60 * r + i) / T (60 * i + i))) T (60 * i + c) = T (60 * i + c) := if_neg (by omega)
    by_cases e : r' = r
    · rw [if_neg (show ¬ (r + 1 ≤ r' ∧ r' < r + 1 + n) by omega), if_pos (show r ≤ r' ∧ r' < r + (n + 1) by omega), e]
      unfold hs_addRow
      rw [if_pos (show 60 * r ≤ 60 * r + c ∧ 60 * r + c < 60 * r + w by omega), show 60 * i + (60 * r + c - 60 * r) = 60 * i + c by omega]
    · rw [show hs_addRow w r i (-(T (60 * r + i) / T (60 * i + i))) T (60 * r' + c) = T (60 * r' + c) from if_neg (by omega), show hs_addRow w r i (-(T (60 * r + i) / T (60 * i + i))) T (60 * r' + i) = T (60 * r' + i) from if_neg (by omega), a1]
      by_cases e2 : r + 1 ≤ r' ∧ r' < r + 1 + n
      · rw [if_pos e2, if_pos (show r ≤ r' ∧ r' < r + (n + 1) by omega)]
      · rw [if_neg e2, if_neg (show ¬ (r ≤ r' ∧ r' < r + (n + 1)) by omega)]
theorem hs_clearC_at {h i : Nat} (hi : i < 60) : ∀ (n c : Nat) (T : Nat → Int64) (r c' : Nat), i < c → c + n ≤ 60 → c' < 60 → T (60 * r + i) = 0 → hs_clearC h i n c T (60 * r + c') = T (60 * r + c') := by
  intro n
  induction n with
  | zero => intro c T r c' _ _ _ _; rfl
  | succ n ih =>
    intro c T r c' hc hn hc' hz
    show hs_clearC h i n (c + 1) _ (60 * r + c') = _
    rw [ih (c + 1) _ r c' (by omega) (by omega) hc' ((if_neg (by omega)).trans hz)]
    by_cases e : (60 * r + c') % 60 = c ∧ (60 * r + c') / 60 < h
    · unfold hs_addCol
      rw [if_pos e, show 60 * ((60 * r + c') / 60) + i = 60 * r + i by omega, hz, Int64.mul_zero, Int64.add_zero]
    · exact if_neg e
theorem hs_clearT_at {h w i r c : Nat} {T : Nat → Int64} (hw : w ≤ 60) (hiw : i < w) (hr : i < r) (hrh : r < h) (hcw : c < w) (hz : hs_rem (T (60 * r + i)) (T (60 * i + i)) = 0) : hs_clearT h w i T (60 * r + c) = T (60 * r + c) + -(T (60 * r + i) / T (60 * i + i)) * T (60 * i + c) := by
  unfold hs_clearT
  have z : hs_clearR w i (h - (i + 1)) (i + 1) T (60 * r + i) = 0 := by
    rw [hs_clearR_col hw hiw _ _ _ r (by omega) hr, if_pos (by omega)]; exact hz
  rw [hs_clearC_at (by omega) _ _ _ r c (by omega) (by omega) (by omega) z, hs_clearR_at hw hiw _ _ _ r c (by omega) hr hcw, if_pos (by omega)]
def hg_d (u c : Nat) : Int64 := if c = u then 1 else 0
def hg_row (T : Nat → Int64) (i w r : Nat) : Prop := ∃ u v : Nat, ∀ c, i ≤ c → c < w → T (60 * r + c) = hg_d u c - hg_d v c
def hg_P (h w i : Nat) (T : Nat → Int64) : Prop := ∀ r, i ≤ r → r < h → hg_row T i w r
def hg_s (i j c : Nat) : Nat := if c = i then j else if c = j then i else c
theorem hg_d1 {u c : Nat} (h : c = u) : hg_d u c = 1 := if_pos h
theorem hg_d0 {u c : Nat} (h : ¬ c = u) : hg_d u c = 0 := if_neg h
theorem hg_ds (u i j c : Nat) : hg_d u (hg_s i j c) = hg_d (hg_s i j u) c := by
  have e : hg_s i j c = u ↔ c = hg_s i j u := by
    unfold hg_s
    split <;> split <;> (try split) <;> (try split) <;> omega
  by_cases q : hg_s i j c = u
  · rw [hg_d1 q, hg_d1 (e.mp q)]
  · rw [hg_d0 q, hg_d0 (fun z => q (e.mpr z))]
theorem hg_val (u v c : Nat) : hg_d u c - hg_d v c = 0 ∨ hg_d u c - hg_d v c = 1 ∨ hg_d u c - hg_d v c = -1 := by
  by_cases a : c = u
  · by_cases b : c = v
    · rw [hg_d1 a, hg_d1 b]; exact Or.inl (by decide)
    · rw [hg_d1 a, hg_d0 b]; exact Or.inr (Or.inl (by decide))
  · by_cases b : c = v
    · rw [hg_d0 a, hg_d1 b]; exact Or.inr (Or.inr (by decide))
    · rw [hg_d0 a, hg_d0 b]; exact Or.inl (by decide)
theorem hg_nomin {h w i : Nat} {T : Nat → Int64} (hP : hg_P h w i T) : hs_nomin T i h w := by
  intro r c a b d e
  obtain ⟨u, v, q⟩ := hP r a b
  rw [q c d e]
  rcases hg_val u v c with z | z | z
  · rw [z]; decide
  · rw [z]; decide
  · rw [z]; decide
theorem hg_bring {h w i : Nat} {p : Nat × Nat} {T : Nat → Int64} (hh : h ≤ 60) (hw : w ≤ 60) (hih : i < h) (hiw : i < w) (hp : i ≤ p.1 ∧ p.1 < h ∧ i ≤ p.2 ∧ p.2 < w) (hP : hg_P h w i T) : hg_P h w i (hs_bring h w i p T) := by
  intro r a b
  have hr : ∃ r', i ≤ r' ∧ r' < h ∧ ∀ c, c < w → hs_swapRow w i p.1 T (60 * r + c) = T (60 * r' + c) := by
    by_cases e1 : r = i
    · exact ⟨p.1, hp.1, hp.2.1, fun c hc => by rw [hs_swapRow_at hw hc, if_pos e1]⟩
    · by_cases e2 : r = p.1
      · exact ⟨i, Nat.le_refl _, hih, fun c hc => by rw [hs_swapRow_at hw hc, if_neg e1, if_pos e2]⟩
      · exact ⟨r, a, b, fun c hc => by rw [hs_swapRow_at hw hc, if_neg e1, if_neg e2]⟩
  obtain ⟨r', a1, a2, a3⟩ := hr
  obtain ⟨u, v, q⟩ := hP r' a1 a2
  refine ⟨hg_s i p.2 u, hg_s i p.2 v, fun c c1 c2 => ?_⟩
  have s1 : i ≤ hg_s i p.2 c ∧ hg_s i p.2 c < w := by
    unfold hg_s
    split
    · exact ⟨hp.2.2.1, hp.2.2.2⟩
    · split
      · exact ⟨Nat.le_refl _, hiw⟩
      · exact ⟨c1, c2⟩
  have s2 : hs_bring h w i p T (60 * r + c) = hs_swapRow w i p.1 T (60 * r + hg_s i p.2 c) := by
    unfold hs_bring
    rw [hs_swapCol_at b (by omega)]
    unfold hg_s
    split
    · rfl
    · split
      · rfl
      · rfl
  rw [s2, a3 _ s1.2, q _ s1.1 s1.2, hg_ds, hg_ds]
theorem hg_unit {x : Int64} (h : x = 0 ∨ x = 1 ∨ x = -1) (hz : x ≠ 0) : x = 1 ∨ x = -1 := by
  rcases h with z | z
  · exact absurd z hz
  · exact z
theorem hg_rem {x a : Int64} (hx : x ≠ Int64.minValue) (ha : a = 1 ∨ a = -1) : hs_rem x a = 0 := by
  refine hs_n0.mp ?_
  rw [hs_rem_n hx]
  have e : hs_n a = 1 := by
    rcases ha with z | z
    · rw [z]; decide
    · rw [z]; decide
  rw [e]; exact Nat.mod_one _
theorem hg_pass {h w i : Nat} {T : Nat → Int64} (hw : w ≤ 60) (hih : i < h) (hiw : i < w) (hP : hg_P h w i T) (hz : T (60 * i + i) ≠ 0) : (T (60 * i + i) = 1 ∨ T (60 * i + i) = -1) ∧ hg_P h w (i + 1) (hs_clearT h w i T) := by
  obtain ⟨U, V, q⟩ := hP i (Nat.le_refl _) hih
  have ei := q i (Nat.le_refl _) hiw
  have hu : T (60 * i + i) = 1 ∨ T (60 * i + i) = -1 := hg_unit (by rw [ei]; exact hg_val U V i) hz
  refine ⟨hu, fun r a b => ?_⟩
  obtain ⟨u, v, q2⟩ := hP r (by omega) b
  have er := q2 i (Nat.le_refl _) hiw
  have hm := hg_nomin hP r i (by omega) b (Nat.le_refl _) hiw
  have cellAt : ∀ c, i + 1 ≤ c → c < w → hs_clearT h w i T (60 * r + c) = (hg_d u c - hg_d v c) + -(T (60 * r + i) / T (60 * i + i)) * (hg_d U c - hg_d V c) := by
    intro c c1 c2
    rw [hs_clearT_at hw hiw (by omega) b c2 (hg_rem hm hu), q2 c (by omega) c2, q c (by omega) c2]
  have key : ∀ (u' v' : Nat), (∀ c, i + 1 ≤ c → (hg_d u c - hg_d v c) + -(T (60 * r + i) / T (60 * i + i)) * (hg_d U c - hg_d V c) = hg_d u' c - hg_d v' c) → hg_row (hs_clearT h w i T) (i + 1) w r := by
    intro u' v' k
    exact ⟨u', v', fun c c1 c2 => (cellAt c c1 c2).trans (k c c1)⟩
  have same : T (60 * r + i) = 0 → hg_row (hs_clearT h w i T) (i + 1) w r := by
    intro z
    refine key u v (fun c _ => ?_)
    rw [z]
    have e0 : -((0 : Int64) / T (60 * i + i)) = 0 := by
      rcases hu with y | y
      · rw [y]; decide
      · rw [y]; decide
    rw [e0, Int64.zero_mul, Int64.add_zero]
  by_cases a1 : i = u
  · by_cases a2 : i = v
    · exact same (by rw [er, hg_d1 a1, hg_d1 a2]; decide)
    · have x : T (60 * r + i) = 1 := by rw [er, hg_d1 a1, hg_d0 a2]; decide
      by_cases b1 : i = U
      · by_cases b2 : i = V
        · exact absurd (by rw [ei, hg_d1 b1, hg_d1 b2]; decide) hz
        · have y : T (60 * i + i) = 1 := by rw [ei, hg_d1 b1, hg_d0 b2]; decide
          refine key V v (fun c c1 => ?_)
          rw [x, y, hg_d0 (show ¬ c = u by omega), hg_d0 (show ¬ c = U by omega)]
          by_cases d1 : c = v
          · by_cases d2 : c = V
            · rw [hg_d1 d1, hg_d1 d2]; decide
            · rw [hg_d1 d1, hg_d0 d2]; decide
          · by_cases d2 : c = V
            · rw [hg_d0 d1, hg_d1 d2]; decide
            · rw [hg_d0 d1, hg_d0 d2]; decide
      · by_cases b2 : i = V
        · have y : T (60 * i + i) = -1 := by rw [ei, hg_d0 b1, hg_d1 b2]; decide
          refine key U v (fun c c1 => ?_)
          rw [x, y, hg_d0 (show ¬ c = u by omega), hg_d0 (show ¬ c = V by omega)]
          by_cases d1 : c = v
          · by_cases d2 : c = U
            · rw [hg_d1 d1, hg_d1 d2]; decide
            · rw [hg_d1 d1, hg_d0 d2]; decide
          · by_cases d2 : c = U
            · rw [hg_d0 d1, hg_d1 d2]; decide
            · rw [hg_d0 d1, hg_d0 d2]; decide
        · exact absurd (by rw [ei, hg_d0 b1, hg_d0 b2]; decide) hz
  · by_cases a2 : i = v
    · have x : T (60 * r + i) = -1 := by rw [er, hg_d0 a1, hg_d1 a2]; decide
      by_cases b1 : i = U
      · by_cases b2 : i = V
        · exact absurd (by rw [ei, hg_d1 b1, hg_d1 b2]; decide) hz
        · have y : T (60 * i + i) = 1 := by rw [ei, hg_d1 b1, hg_d0 b2]; decide
          refine key u V (fun c c1 => ?_)
          rw [x, y, hg_d0 (show ¬ c = v by omega), hg_d0 (show ¬ c = U by omega)]
          by_cases d1 : c = u
          · by_cases d2 : c = V
            · rw [hg_d1 d1, hg_d1 d2]; decide
            · rw [hg_d1 d1, hg_d0 d2]; decide
          · by_cases d2 : c = V
            · rw [hg_d0 d1, hg_d1 d2]; decide
            · rw [hg_d0 d1, hg_d0 d2]; decide
      · by_cases b2 : i = V
        · have y : T (60 * i + i) = -1 := by rw [ei, hg_d0 b1, hg_d1 b2]; decide
          refine key u U (fun c c1 => ?_)
          rw [x, y, hg_d0 (show ¬ c = v by omega), hg_d0 (show ¬ c = V by omega)]
          by_cases d1 : c = u
          · by_cases d2 : c = U
            · rw [hg_d1 d1, hg_d1 d2]; decide
            · rw [hg_d1 d1, hg_d0 d2]; decide
          · by_cases d2 : c = U
            · rw [hg_d0 d1, hg_d1 d2]; decide
            · rw [hg_d0 d1, hg_d0 d2]; decide
        · exact absurd (by rw [ei, hg_d0 b1, hg_d0 b2]; decide) hz
    · exact same (by rw [er, hg_d0 a1, hg_d0 a2]; decide)
/-- laysSteps ends on every table whose rows are a letter less a letter. -/
theorem hg_ends {t : XT} {Q : Int32 → XT → Prop} {h w : Nat} (hh : t.1 6 = nI h) (hw : t.1 7 = nI w) (hh60 : h ≤ 60) (hw60 : w ≤ 60) (h0 : hg_P h w 0 (t.2.2.2 4))
    (hQ : ∀ (n : Nat) (T S : Nat → Int64), n ≤ 60 → Q (nI n) (hs_st t T S)) : ∃ k, wqX12_laysSteps k t Q := by
  have one : ∀ (i : Nat) (T : Nat → Int64) (p : Nat × Nat), hg_P h w i T → i < h → i < w → hs_least T i h w = some p →
      hg_P h w i (hs_bring h w i p T) ∧ (hs_bring h w i p T (60 * i + i) = 1 ∨ hs_bring h w i p T (60 * i + i) = -1) ∧ hg_P h w (i + 1) (hs_clearT h w i (hs_bring h w i p T)) := by
    intro i T p hT a b d
    have hp := (hs_least_inv (Nat.le_of_lt a) (Nat.le_of_lt b) (hg_nomin hT)).2.2 p d
    have hB := hg_bring hh60 hw60 a b hp.1 hT
    have hz : hs_bring h w i p T (60 * i + i) ≠ 0 := by rw [hs_bring_piv hh60 hw60 a b hp.1]; exact hp.2.1
    exact ⟨hB, hg_pass hw60 a b hB hz⟩
  have full : ∀ (i : Nat) (T : Nat → Int64) (p : Nat × Nat), hg_P h w i T → i < h → i < w → hs_least T i h w = some p → hs_clearF h w i (hs_bring h w i p T) = true := by
    intro i T p hT a b d
    obtain ⟨hB, hu, _⟩ := one i T p hT a b d
    have nm := hg_nomin hB
    exact (hs_clearF_iff hh60 hw60 a b).mpr ⟨fun r x y => hg_rem (nm r i (by omega) y (Nat.le_refl _) b) hu, fun c x y => hg_rem (nm i c (Nat.le_refl _) a (by omega) y) hu⟩
  refine hs_ends (hg_P h w) hh hw hh60 hw60 h0 hQ (fun i T hT => hg_nomin hT) (fun i T p hT a b d e => ?_) (fun i T p r c hT a b d e r1 r2 c1 c2 z => ?_) (fun i T p hT a b d e f => (one i T p hT a b d).2.2)
  · rw [full i T p hT a b d] at e
    exact absurd e (by decide)
  · obtain ⟨_, hu, hn⟩ := one i T p hT a b d
    refine absurd (hg_rem (hg_nomin hn r c (by omega) r2 (by omega) c2) ?_) z
    rw [hs_clearT_piv hw60 b]
    exact hu
