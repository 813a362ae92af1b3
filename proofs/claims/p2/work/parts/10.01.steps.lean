/-! ===== the reference's elimination, without the machine: single moves of the table (place 60 * row + column) ===== -/
theorem hs_mul (r : Nat) : (60 : Int32) * nI r = nI (60 * r) := (Int32.ofNat_mul 60 r).symm
theorem hs_at (r c : Nat) : (60 : Int32) * nI r + nI c = nI (60 * r + c) := by rw [hs_mul, nI_add]
theorem hs_inc (c : Nat) : nI c + Int32.ofInt 1 = nI (c + 1) := nI_1 c
theorem hs_sBB (t : XT) (k : Nat) (f g : Nat → Int64) : sB (sB t k f) k g = sB t k g := by
  unfold sB uI
  refine Prod.ext rfl (Prod.ext rfl (Prod.ext rfl ?_))
  funext j
  show cond (Nat.beq j k) g (cond (Nat.beq j k) f (t.2.2.2 j)) = cond (Nat.beq j k) g (t.2.2.2 j)
  cases Nat.beq j k <;> rfl
theorem hs_sB0 (t : XT) : sB t 4 (t.2.2.2 4) = t := by
  unfold sB uI
  refine Prod.ext rfl (Prod.ext rfl (Prod.ext rfl ?_))
  funext j
  show cond (Nat.beq j 4) (t.2.2.2 4) (t.2.2.2 j) = t.2.2.2 j
  cases h : Nat.beq j 4 with
  | true => rw [Nat.eq_of_beq_eq_true h]; rfl
  | false => rfl
theorem hs_cell {k : Nat} {t : XT} {r c : Nat} {Q : Int64 → XT → Prop} (hr : r < 60) (hc : c < 60) (h : Q (t.2.2.2 4 (60 * r + c)) t) : wqX12_cell (k + 1) t (nI r) (nI c) Q := by
  show wbX12_cell_0 (wpX12_cell k) k t (uI (uI (fun _ => 0) 1 (nI r)) 2 (nI c)) (fun _ => 0) Q
  intro v1 e1 v2 e2
  have e2 : v2 = nI (60 * r + c) := by rw [e2, e1]; exact hs_at r c
  subst e2
  refine ⟨vp_in_nI (by omega) (by decide), fun v3 e3 => ?_⟩
  subst e3
  rw [nI_clamp (by omega)]
  exact h
def hs_addRow (w r b : Nat) (x : Int64) (T : Nat → Int64) : Nat → Int64 := fun j => if 60 * r ≤ j ∧ j < 60 * r + w then T j + x * T (60 * b + (j - 60 * r)) else T j
def hs_addCol (h c b : Nat) (x : Int64) (T : Nat → Int64) : Nat → Int64 := fun j => if j % 60 = c ∧ j / 60 < h then T j + x * T (60 * (j / 60) + b) else T j
def hs_swapRow (w a b : Nat) (T : Nat → Int64) : Nat → Int64 := fun j => if 60 * a ≤ j ∧ j < 60 * a + w then T (60 * b + (j - 60 * a)) else if 60 * b ≤ j ∧ j < 60 * b + w then T (60 * a + (j - 60 * b)) else T j
def hs_swapCol (h a b : Nat) (T : Nat → Int64) : Nat → Int64 := fun j => if j / 60 < h ∧ j % 60 = a then T (60 * (j / 60) + b) else if j / 60 < h ∧ j % 60 = b then T (60 * (j / 60) + a) else T j
theorem hs_addRow_go {t : XT} {r b w : Nat} {x : Int64} {Q : XT → Prop} (hw : t.1 7 = nI w) (hw60 : w ≤ 60) (hr : r < 60) (hb : b < 60) (hrb : r ≠ b) (h : Q (sB t 4 (hs_addRow w r b x (t.2.2.2 4)))) :
    ∀ (n c k : Nat) (li : Nat → Int32) (lj : Nat → Int64), c + n = w → li 1 = nI r → li 2 = nI b → li 5 = nI c → lj 3 = x → wpX12_addsRow (k + n + 2) 1 (sB t 4 (hs_addRow c r b x (t.2.2.2 4))) li lj Q := by
  intro n
  induction n with
  | zero =>
    intro c k li lj hn e1 e2 e5 e3
    show wbX12_addsRow_1 (wpX12_addsRow (k + 1)) (k + 1) _ li lj Q
    refine ⟨fun _ => ?_, fun c1 => absurd ?_ c1⟩
    · rw [show c = w by omega]; exact h
    · show t.1 7 ≤ li 5
      rw [hw, e5]; exact nI_le (by omega) (by omega)
  | succ n ih =>
    intro c k li lj hn e1 e2 e5 e3
    show wbX12_addsRow_1 (wpX12_addsRow (k + n + 2)) (k + n + 2) _ li lj Q
    refine ⟨fun c1 => absurd (show t.1 7 ≤ li 5 from c1) ?_, fun _ => ?_⟩
    · rw [hw, e5]; exact nI_ge (by omega) (by omega)
    · intro v2 f2 v3 f3
      have f3 : v3 = nI (60 * r + c) := by rw [f3, f2, e1, e5]; exact hs_at r c
      subst f3
      refine ⟨vp_in_nI (by omega) (by decide), fun v4 f4 => ?_⟩
      rw [e2, e5]
      refine hs_cell (k := k + n + 1) hb (by omega) ?_
      intro v6 f6 v7 f7
      refine ⟨vp_in_nI (by omega) (by decide), fun t8 f8 v9 f9 => ?_⟩
      have g : t8 = sB t 4 (hs_addRow (c + 1) r b x (t.2.2.2 4)) := by
        rw [f8, hs_sBB]
        congr 1
        funext j
        rw [nI_clamp (by omega)]
        rw [f7, f6, f4, nI_clamp (by omega), e3]
        show vp_updL (hs_addRow c r b x (t.2.2.2 4)) (60 * r + c) _ j = _
        unfold vp_updL
        have q1 : hs_addRow c r b x (t.2.2.2 4) (60 * r + c) = t.2.2.2 4 (60 * r + c) := if_neg (by omega)
        have q2 : hs_addRow c r b x (t.2.2.2 4) (60 * b + c) = t.2.2.2 4 (60 * b + c) := if_neg (by omega)
        by_cases hj : j = 60 * r + c
        · rw [if_pos hj, hj]
          show hs_addRow c r b x (t.2.2.2 4) (60 * r + c) + x * hs_addRow c r b x (t.2.2.2 4) (60 * b + c) = hs_addRow (c + 1) r b x (t.2.2.2 4) (60 * r + c)
          rw [q1, q2]
          unfold hs_addRow
          rw [if_pos ⟨by omega, by omega⟩, show 60 * b + (60 * r + c - 60 * r) = 60 * b + c by omega]
        · rw [if_neg hj]
          unfold hs_addRow
          by_cases hc : 60 * r ≤ j ∧ j < 60 * r + c
          · rw [if_pos hc, if_pos ⟨hc.1, by omega⟩]
          · rw [if_neg hc, if_neg (by omega)]
      subst g
      have f9 : v9 = nI (c + 1) := by rw [f9]; exact hs_inc c
      exact ih (c + 1) k (uI li 5 v9) lj (by omega) e1 e2 f9 e3
theorem hs_addsRow {t : XT} {r b w k : Nat} {x : Int64} {Q : XT → Prop} (hw : t.1 7 = nI w) (hw60 : w ≤ 60) (hr : r < 60) (hb : b < 60) (hrb : r ≠ b) (h : Q (sB t 4 (hs_addRow w r b x (t.2.2.2 4)))) : wqX12_addsRow (k + w + 3) t (nI r) (nI b) x Q := by
  show wbX12_addsRow_0 (wpX12_addsRow (k + w + 2)) (k + w + 2) t (uI (uI (fun _ => 0) 1 (nI r)) 2 (nI b)) (uI (fun _ => 0) 3 x) Q
  have g := hs_addRow_go hw hw60 hr hb hrb h w 0 k (uI (uI (uI (fun _ => 0) 1 (nI r)) 2 (nI b)) 5 0) (uI (fun _ => 0) 3 x) (by omega) rfl rfl rfl rfl
  have z : hs_addRow 0 r b x (t.2.2.2 4) = t.2.2.2 4 := by
    funext j
    exact if_neg (by omega)
  rw [z, hs_sB0] at g
  exact g

theorem hs_addCol_go {t : XT} {r b w : Nat} {x : Int64} {Q : XT → Prop} (hw : t.1 6 = nI w) (hw60 : w ≤ 60) (hr : r < 60) (hb : b < 60) (hrb : r ≠ b) (h : Q (sB t 4 (hs_addCol w r b x (t.2.2.2 4)))) :
    ∀ (n c k : Nat) (li : Nat → Int32) (lj : Nat → Int64), c + n = w → li 1 = nI r → li 2 = nI b → li 5 = nI c → lj 3 = x → wpX12_addsColumn (k + n + 2) 1 (sB t 4 (hs_addCol c r b x (t.2.2.2 4))) li lj Q := by
  intro n
  induction n with
  | zero =>
    intro c k li lj hn e1 e2 e5 e3
    show wbX12_addsColumn_1 (wpX12_addsColumn (k + 1)) (k + 1) _ li lj Q
    refine ⟨fun _ => ?_, fun c1 => absurd ?_ c1⟩
    · rw [show c = w by omega]; exact h
    · show t.1 6 ≤ li 5
      rw [hw, e5]; exact nI_le (by omega) (by omega)
  | succ n ih =>
    intro c k li lj hn e1 e2 e5 e3
    show wbX12_addsColumn_1 (wpX12_addsColumn (k + n + 2)) (k + n + 2) _ li lj Q
    refine ⟨fun c1 => absurd (show t.1 6 ≤ li 5 from c1) ?_, fun _ => ?_⟩
    · rw [hw, e5]; exact nI_ge (by omega) (by omega)
    · intro v2 f2 v3 f3
      have f3 : v3 = nI (60 * c + r) := by rw [f3, f2, e1, e5]; exact hs_at c r
      subst f3
      refine ⟨vp_in_nI (by omega) (by decide), fun v4 f4 => ?_⟩
      rw [e2, e5]
      refine hs_cell (k := k + n + 1) (by omega) hb ?_
      intro v6 f6 v7 f7
      refine ⟨vp_in_nI (by omega) (by decide), fun t8 f8 v9 f9 => ?_⟩
      have g : t8 = sB t 4 (hs_addCol (c + 1) r b x (t.2.2.2 4)) := by
        rw [f8, hs_sBB]
        congr 1
        funext j
        rw [nI_clamp (by omega)]
        rw [f7, f6, f4, nI_clamp (by omega), e3]
        show vp_updL (hs_addCol c r b x (t.2.2.2 4)) (60 * c + r) _ j = _
        unfold vp_updL
        have q1 : hs_addCol c r b x (t.2.2.2 4) (60 * c + r) = t.2.2.2 4 (60 * c + r) := if_neg (by omega)
        have q2 : hs_addCol c r b x (t.2.2.2 4) (60 * c + b) = t.2.2.2 4 (60 * c + b) := if_neg (by omega)
        by_cases hj : j = 60 * c + r
        · rw [if_pos hj, hj]
          show hs_addCol c r b x (t.2.2.2 4) (60 * c + r) + x * hs_addCol c r b x (t.2.2.2 4) (60 * c + b) = hs_addCol (c + 1) r b x (t.2.2.2 4) (60 * c + r)
          rw [q1, q2]
          unfold hs_addCol
          rw [if_pos ⟨by omega, by omega⟩, show (60 * c + r) / 60 = c by omega]
        · rw [if_neg hj]
          unfold hs_addCol
          by_cases hc : j % 60 = r ∧ j / 60 < c
          · rw [if_pos hc, if_pos ⟨hc.1, by omega⟩]
          · rw [if_neg hc, if_neg (by omega)]
      subst g
      have f9 : v9 = nI (c + 1) := by rw [f9]; exact hs_inc c
      exact ih (c + 1) k (uI li 5 v9) lj (by omega) e1 e2 f9 e3
theorem hs_addsColumn {t : XT} {r b w k : Nat} {x : Int64} {Q : XT → Prop} (hw : t.1 6 = nI w) (hw60 : w ≤ 60) (hr : r < 60) (hb : b < 60) (hrb : r ≠ b) (h : Q (sB t 4 (hs_addCol w r b x (t.2.2.2 4)))) : wqX12_addsColumn (k + w + 3) t (nI r) (nI b) x Q := by
  show wbX12_addsColumn_0 (wpX12_addsColumn (k + w + 2)) (k + w + 2) t (uI (uI (fun _ => 0) 1 (nI r)) 2 (nI b)) (uI (fun _ => 0) 3 x) Q
  have g := hs_addCol_go hw hw60 hr hb hrb h w 0 k (uI (uI (uI (fun _ => 0) 1 (nI r)) 2 (nI b)) 5 0) (uI (fun _ => 0) 3 x) (by omega) rfl rfl rfl rfl
  have z : hs_addCol 0 r b x (t.2.2.2 4) = t.2.2.2 4 := by
    funext j
    exact if_neg (by omega)
  rw [z, hs_sB0] at g
  exact g
theorem hs_swapRow_go {t : XT} {r b w : Nat} {Q : XT → Prop} (hw : t.1 7 = nI w) (hw60 : w ≤ 60) (hr : r < 60) (hb : b < 60) (h : Q (sB t 4 (hs_swapRow w r b (t.2.2.2 4)))) :
    ∀ (n c k : Nat) (li : Nat → Int32) (lj : Nat → Int64), c + n = w → li 1 = nI r → li 2 = nI b → li 3 = nI c → wpX12_swapsRows (k + n + 2) 1 (sB t 4 (hs_swapRow c r b (t.2.2.2 4))) li lj Q := by
  intro n
  induction n with
  | zero =>
    intro c k li lj hn e1 e2 e5
    show wbX12_swapsRows_1 (wpX12_swapsRows (k + 1)) (k + 1) _ li lj Q
    refine ⟨fun _ => ?_, fun c1 => absurd ?_ c1⟩
    · rw [show c = w by omega]; exact h
    · show t.1 7 ≤ li 3
      rw [hw, e5]; exact nI_le (by omega) (by omega)
  | succ n ih =>
    intro c k li lj hn e1 e2 e5
    show wbX12_swapsRows_1 (wpX12_swapsRows (k + n + 2)) (k + n + 2) _ li lj Q
    refine ⟨fun c1 => absurd (show t.1 7 ≤ li 3 from c1) ?_, fun _ => ?_⟩
    · rw [hw, e5]; exact nI_ge (by omega) (by omega)
    · rw [e1, e2, e5]
      refine hs_cell (k := k + n + 1) hr (by omega) ?_
      intro v3 f3 v4 f4
      have f4 : v4 = nI (60 * r + c) := by rw [f4, f3]; exact hs_at r c
      subst f4
      refine hs_cell (k := k + n + 1) hb (by omega) ?_
      refine ⟨vp_in_nI (by omega) (by decide), fun t6 f6 v7 f7 v8 f8 => ?_⟩
      have f8 : v8 = nI (60 * b + c) := by rw [f8, f7]; exact hs_at b c
      subst f8
      refine ⟨vp_in_nI (by omega) (by decide), fun t9 f9 v10 f10 => ?_⟩
      have g : t9 = sB t 4 (hs_swapRow (c + 1) r b (t.2.2.2 4)) := by
        rw [f9, f6, hs_sBB, hs_sBB]
        congr 1
        funext j
        rw [nI_clamp (by omega), nI_clamp (by omega)]
        show vp_updL (vp_updL (hs_swapRow c r b (t.2.2.2 4)) (60 * r + c) (hs_swapRow c r b (t.2.2.2 4) (60 * b + c))) (60 * b + c) (hs_swapRow c r b (t.2.2.2 4) (60 * r + c)) j = _
        unfold vp_updL
        have q1 : hs_swapRow c r b (t.2.2.2 4) (60 * r + c) = t.2.2.2 4 (60 * r + c) := by unfold hs_swapRow; rw [if_neg (by omega), if_neg (by omega)]
        have q2 : hs_swapRow c r b (t.2.2.2 4) (60 * b + c) = t.2.2.2 4 (60 * b + c) := by unfold hs_swapRow; rw [if_neg (by omega), if_neg (by omega)]
        rw [q1, q2]
        by_cases hj : j = 60 * b + c
        · rw [if_pos hj, hj]
          unfold hs_swapRow
          by_cases hrb : r = b
          · rw [if_pos ⟨by omega, by omega⟩, hrb, show 60 * b + (60 * b + c - 60 * b) = 60 * b + c by omega]
          · rw [if_neg (by omega), if_pos ⟨by omega, by omega⟩, show 60 * r + (60 * b + c - 60 * b) = 60 * r + c by omega]
        · rw [if_neg hj]
          by_cases hj2 : j = 60 * r + c
          · rw [if_pos hj2, hj2]
            unfold hs_swapRow
            rw [if_pos ⟨by omega, by omega⟩, show 60 * b + (60 * r + c - 60 * r) = 60 * b + c by omega]
          · rw [if_neg hj2]
            unfold hs_swapRow
            by_cases hc : 60 * r ≤ j ∧ j < 60 * r + c
            · rw [if_pos hc, if_pos ⟨hc.1, by omega⟩]
            · rw [if_neg hc, if_neg (show ¬ (60 * r ≤ j ∧ j < 60 * r + (c + 1)) by omega)]
              by_cases hc2 : 60 * b ≤ j ∧ j < 60 * b + c
              · rw [if_pos hc2, if_pos ⟨hc2.1, by omega⟩]
              · rw [if_neg hc2, if_neg (show ¬ (60 * b ≤ j ∧ j < 60 * b + (c + 1)) by omega)]
      subst g
      have f10 : v10 = nI (c + 1) := by rw [f10]; exact hs_inc c
      exact ih (c + 1) k (uI li 3 v10) lj (by omega) e1 e2 f10
theorem hs_swapsRows {t : XT} {r b w k : Nat} {Q : XT → Prop} (hw : t.1 7 = nI w) (hw60 : w ≤ 60) (hr : r < 60) (hb : b < 60) (h : Q (sB t 4 (hs_swapRow w r b (t.2.2.2 4)))) : wqX12_swapsRows (k + w + 3) t (nI r) (nI b) Q := by
  show wbX12_swapsRows_0 (wpX12_swapsRows (k + w + 2)) (k + w + 2) t (uI (uI (fun _ => 0) 1 (nI r)) 2 (nI b)) (fun _ => 0) Q
  have g := hs_swapRow_go hw hw60 hr hb h w 0 k (uI (uI (uI (fun _ => 0) 1 (nI r)) 2 (nI b)) 3 0) (fun _ => 0) (by omega) rfl rfl rfl
  have z : hs_swapRow 0 r b (t.2.2.2 4) = t.2.2.2 4 := by
    funext j
    unfold hs_swapRow
    rw [if_neg (by omega), if_neg (by omega)]
  rw [z, hs_sB0] at g
  exact g
theorem hs_swapCol_go {t : XT} {r b w : Nat} {Q : XT → Prop} (hw : t.1 6 = nI w) (hw60 : w ≤ 60) (hr : r < 60) (hb : b < 60) (h : Q (sB t 4 (hs_swapCol w r b (t.2.2.2 4)))) :
    ∀ (n c k : Nat) (li : Nat → Int32) (lj : Nat → Int64), c + n = w → li 1 = nI r → li 2 = nI b → li 3 = nI c → wpX12_swapsColumns (k + n + 2) 1 (sB t 4 (hs_swapCol c r b (t.2.2.2 4))) li lj Q := by
  intro n
  induction n with
  | zero =>
    intro c k li lj hn e1 e2 e5
    show wbX12_swapsColumns_1 (wpX12_swapsColumns (k + 1)) (k + 1) _ li lj Q
    refine ⟨fun _ => ?_, fun c1 => absurd ?_ c1⟩
    · rw [show c = w by omega]; exact h
    · show t.1 6 ≤ li 3
      rw [hw, e5]; exact nI_le (by omega) (by omega)
  | succ n ih =>
    intro c k li lj hn e1 e2 e5
    show wbX12_swapsColumns_1 (wpX12_swapsColumns (k + n + 2)) (k + n + 2) _ li lj Q
    refine ⟨fun c1 => absurd (show t.1 6 ≤ li 3 from c1) ?_, fun _ => ?_⟩
    · rw [hw, e5]; exact nI_ge (by omega) (by omega)
    · rw [e1, e2, e5]
      refine hs_cell (k := k + n + 1) (by omega) hr ?_
      intro v3 f3 v4 f4
      have f4 : v4 = nI (60 * c + r) := by rw [f4, f3]; exact hs_at c r
      subst f4
      refine hs_cell (k := k + n + 1) (by omega) hb ?_
      refine ⟨vp_in_nI (by omega) (by decide), fun t6 f6 v7 f7 v8 f8 => ?_⟩
      have f8 : v8 = nI (60 * c + b) := by rw [f8, f7]; exact hs_at c b
      subst f8
      refine ⟨vp_in_nI (by omega) (by decide), fun t9 f9 v10 f10 => ?_⟩
      have g : t9 = sB t 4 (hs_swapCol (c + 1) r b (t.2.2.2 4)) := by
        rw [f9, f6, hs_sBB, hs_sBB]
        congr 1
        funext j
        rw [nI_clamp (by omega), nI_clamp (by omega)]
        show vp_updL (vp_updL (hs_swapCol c r b (t.2.2.2 4)) (60 * c + r) (hs_swapCol c r b (t.2.2.2 4) (60 * c + b))) (60 * c + b) (hs_swapCol c r b (t.2.2.2 4) (60 * c + r)) j = _
        unfold vp_updL
        have q1 : hs_swapCol c r b (t.2.2.2 4) (60 * c + r) = t.2.2.2 4 (60 * c + r) := by unfold hs_swapCol; rw [if_neg (by omega), if_neg (by omega)]
        have q2 : hs_swapCol c r b (t.2.2.2 4) (60 * c + b) = t.2.2.2 4 (60 * c + b) := by unfold hs_swapCol; rw [if_neg (by omega), if_neg (by omega)]
        rw [q1, q2]
        by_cases hj : j = 60 * c + b
        · rw [if_pos hj, hj]
          unfold hs_swapCol
          by_cases hrb : r = b
          · rw [if_pos ⟨by omega, by omega⟩, hrb, show (60 * c + b) / 60 = c by omega]
          · rw [if_neg (by omega), if_pos ⟨by omega, by omega⟩, show (60 * c + b) / 60 = c by omega]
        · rw [if_neg hj]
          by_cases hj2 : j = 60 * c + r
          · rw [if_pos hj2, hj2]
            unfold hs_swapCol
            rw [if_pos ⟨by omega, by omega⟩, show (60 * c + r) / 60 = c by omega]
          · rw [if_neg hj2]
            unfold hs_swapCol
            by_cases hc : j / 60 < c ∧ j % 60 = r
            · rw [if_pos hc, if_pos ⟨by omega, hc.2⟩]
            · rw [if_neg hc, if_neg (show ¬ (j / 60 < c + 1 ∧ j % 60 = r) by omega)]
              by_cases hc2 : j / 60 < c ∧ j % 60 = b
              · rw [if_pos hc2, if_pos ⟨by omega, hc2.2⟩]
              · rw [if_neg hc2, if_neg (show ¬ (j / 60 < c + 1 ∧ j % 60 = b) by omega)]
      subst g
      have f10 : v10 = nI (c + 1) := by rw [f10]; exact hs_inc c
      exact ih (c + 1) k (uI li 3 v10) lj (by omega) e1 e2 f10
theorem hs_swapsColumns {t : XT} {r b w k : Nat} {Q : XT → Prop} (hw : t.1 6 = nI w) (hw60 : w ≤ 60) (hr : r < 60) (hb : b < 60) (h : Q (sB t 4 (hs_swapCol w r b (t.2.2.2 4)))) : wqX12_swapsColumns (k + w + 3) t (nI r) (nI b) Q := by
  show wbX12_swapsColumns_0 (wpX12_swapsColumns (k + w + 2)) (k + w + 2) t (uI (uI (fun _ => 0) 1 (nI r)) 2 (nI b)) (fun _ => 0) Q
  have g := hs_swapCol_go hw hw60 hr hb h w 0 k (uI (uI (uI (fun _ => 0) 1 (nI r)) 2 (nI b)) 3 0) (fun _ => 0) (by omega) rfl rfl rfl
  have z : hs_swapCol 0 r b (t.2.2.2 4) = t.2.2.2 4 := by
    funext j
    unfold hs_swapCol
    rw [if_neg (by omega), if_neg (by omega)]
  rw [z, hs_sB0] at g
  exact g
