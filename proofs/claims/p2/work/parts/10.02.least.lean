/-! ===== the reference's elimination, without the machine: the least number that is left ===== -/
theorem hs_swapsRowsK {t : XT} {r b w K : Nat} {Q : XT → Prop} (hw : t.1 7 = nI w) (hw60 : w ≤ 60) (hr : r < 60) (hb : b < 60) (hK : w + 3 ≤ K) (h : Q (sB t 4 (hs_swapRow w r b (t.2.2.2 4)))) : wqX12_swapsRows K t (nI r) (nI b) Q := by
  have g := hs_swapsRows (k := K - (w + 3)) hw hw60 hr hb h
  rw [show K - (w + 3) + w + 3 = K by omega] at g
  exact g
theorem hs_swapsColumnsK {t : XT} {r b w K : Nat} {Q : XT → Prop} (hw : t.1 6 = nI w) (hw60 : w ≤ 60) (hr : r < 60) (hb : b < 60) (hK : w + 3 ≤ K) (h : Q (sB t 4 (hs_swapCol w r b (t.2.2.2 4)))) : wqX12_swapsColumns K t (nI r) (nI b) Q := by
  have g := hs_swapsColumns (k := K - (w + 3)) hw hw60 hr hb h
  rw [show K - (w + 3) + w + 3 = K by omega] at g
  exact g
theorem hs_addsRowK {t : XT} {r b w K : Nat} {x : Int64} {Q : XT → Prop} (hw : t.1 7 = nI w) (hw60 : w ≤ 60) (hr : r < 60) (hb : b < 60) (hrb : r ≠ b) (hK : w + 3 ≤ K) (h : Q (sB t 4 (hs_addRow w r b x (t.2.2.2 4)))) : wqX12_addsRow K t (nI r) (nI b) x Q := by
  have g := hs_addsRow (k := K - (w + 3)) hw hw60 hr hb hrb h
  rw [show K - (w + 3) + w + 3 = K by omega] at g
  exact g
theorem hs_addsColumnK {t : XT} {r b w K : Nat} {x : Int64} {Q : XT → Prop} (hw : t.1 6 = nI w) (hw60 : w ≤ 60) (hr : r < 60) (hb : b < 60) (hrb : r ≠ b) (hK : w + 3 ≤ K) (h : Q (sB t 4 (hs_addCol w r b x (t.2.2.2 4)))) : wqX12_addsColumn K t (nI r) (nI b) x Q := by
  have g := hs_addsColumn (k := K - (w + 3)) hw hw60 hr hb hrb h
  rw [show K - (w + 3) + w + 3 = K by omega] at g
  exact g
theorem hs_cellK {K : Nat} {t : XT} {r c : Nat} {Q : Int64 → XT → Prop} (hr : r < 60) (hc : c < 60) (hK : 1 ≤ K) (h : Q (t.2.2.2 4 (60 * r + c)) t) : wqX12_cell K t (nI r) (nI c) Q := by
  have g := hs_cell (k := K - 1) hr hc h
  rw [show K - 1 + 1 = K by omega] at g
  exact g
theorem hs_cmp0 (x y : Int64) : lg_cmp x y = 0 ↔ x = y := by
  unfold lg_cmp
  by_cases h : x > y
  · rw [if_pos h]
    exact ⟨fun q => absurd q (by decide), fun q => absurd h (by rw [q]; exact Int64.lt_irrefl)⟩
  · rw [if_neg h]
    by_cases h2 : x = y
    · rw [if_pos h2]; exact ⟨fun _ => h2, fun _ => rfl⟩
    · rw [if_neg h2]; exact ⟨fun q => absurd q (by decide), fun q => absurd q h2⟩
theorem hs_cmpge (x y : Int64) : 0 ≤ lg_cmp x y ↔ ¬ x < y := by
  unfold lg_cmp
  by_cases h : x > y
  · rw [if_pos h]
    exact ⟨fun _ q => Int64.lt_irrefl (Int64.lt_trans h q), fun _ => by decide⟩
  · rw [if_neg h]
    by_cases h2 : x = y
    · rw [if_pos h2]; exact ⟨fun _ => by rw [h2]; exact Int64.lt_irrefl, fun _ => by decide⟩
    · rw [if_neg h2]
      refine ⟨fun q => absurd q (by decide), fun q => absurd ?_ h2⟩
      exact Int64.le_antisymm (Int64.not_lt.mp h) (Int64.not_lt.mp q)
def hs_abs (x : Int64) : Int64 := if 0 < x then x else -x
def hs_pick (T : Nat → Int64) (b : Option (Nat × Nat)) (r c : Nat) : Option (Nat × Nat) :=
  match b with
  | none => if T (60 * r + c) = 0 then none else some (r, c)
  | some p => if T (60 * r + c) ≠ 0 ∧ hs_abs (T (60 * r + c)) < hs_abs (T (60 * p.1 + p.2)) then some (r, c) else some p
def hs_scanC (T : Nat → Int64) (r : Nat) : Nat → Nat → Option (Nat × Nat) → Option (Nat × Nat)
  | 0, _, b => b
  | n + 1, c, b => hs_scanC T r n (c + 1) (hs_pick T b r c)
def hs_scanR (T : Nat → Int64) (i w : Nat) : Nat → Nat → Option (Nat × Nat) → Option (Nat × Nat)
  | 0, _, b => b
  | n + 1, r, b => hs_scanR T i w n (r + 1) (hs_scanC T r (w - i) i b)
def hs_bR (b : Option (Nat × Nat)) : Int32 := match b with | none => -1 | some p => nI p.1
def hs_bC (b : Option (Nat × Nat)) : Int32 := match b with | none => -1 | some p => nI p.2
def hs_ok (b : Option (Nat × Nat)) : Prop := ∀ p, b = some p → p.1 < 60 ∧ p.2 < 60
theorem hs_pick_ok {T : Nat → Int64} {b : Option (Nat × Nat)} {r c : Nat} (hb : hs_ok b) (hr : r < 60) (hc : c < 60) : hs_ok (hs_pick T b r c) := by
  intro p hp
  cases b with
  | none =>
    by_cases h : T (60 * r + c) = 0
    · rw [show hs_pick T none r c = none from if_pos h] at hp; exact absurd hp (by simp)
    · rw [show hs_pick T none r c = some (r, c) from if_neg h] at hp
      obtain rfl := Option.some.inj hp
      exact ⟨hr, hc⟩
  | some q =>
    by_cases h : T (60 * r + c) ≠ 0 ∧ hs_abs (T (60 * r + c)) < hs_abs (T (60 * q.1 + q.2))
    · rw [show hs_pick T (some q) r c = some (r, c) from if_pos h] at hp
      obtain rfl := Option.some.inj hp
      exact ⟨hr, hc⟩
    · rw [show hs_pick T (some q) r c = some q from if_neg h] at hp
      exact hb p hp
theorem hs_scanC_ok {T : Nat → Int64} {r : Nat} (hr : r < 60) : ∀ (n c : Nat) (b : Option (Nat × Nat)), c + n ≤ 60 → hs_ok b → hs_ok (hs_scanC T r n c b) := by
  intro n
  induction n with
  | zero => intro c b _ hb; exact hb
  | succ n ih => intro c b hn hb; exact ih (c + 1) _ (by omega) (hs_pick_ok hb hr (by omega))
theorem hs_nI_neg {n : Nat} (h : n < 2 ^ 31) : ¬ nI n = -1 := by
  intro q
  exact nI_pos h (q ▸ (by decide))
theorem hs_bR_neg {b : Option (Nat × Nat)} (hb : hs_ok b) : hs_bR b = -1 ↔ b = none := by
  cases b with
  | none => exact ⟨fun _ => rfl, fun _ => rfl⟩
  | some p => exact ⟨fun q => absurd q (hs_nI_neg (Nat.lt_trans (hb p rfl).1 (by decide))), fun q => absurd q (by simp)⟩
theorem hs_inner {t : XT} {i r w : Nat} {lj : Nat → Int64} {Q : Int32 → XT → Prop} (hw : t.1 7 = nI w) (hw60 : w ≤ 60) (hr : r < 60) (L : Nat) :
    ∀ (n c K : Nat) (b : Option (Nat × Nat)) (li : Nat → Int32), c + n = w → 5 * n + L + 1 ≤ K → hs_ok b → li 1 = nI i → li 2 = hs_bR b → li 3 = hs_bC b → li 4 = nI r → li 5 = nI c →
      (∀ (K' : Nat) (li' : Nat → Int32), L ≤ K' → li' 1 = nI i → li' 2 = hs_bR (hs_scanC (t.2.2.2 4) r n c b) → li' 3 = hs_bC (hs_scanC (t.2.2.2 4) r n c b) → li' 4 = nI (r + 1) → wpX12_bringsLeast K' 1 t li' lj Q) →
      wpX12_bringsLeast K 2 t li lj Q := by
  intro n
  induction n with
  | zero =>
    intro c K b li hn hK hb e1 e2 e3 e4 e5 cont
    obtain ⟨K, rfl⟩ : ∃ K', K = K' + 1 := ⟨K - 1, by omega⟩
    show wbX12_bringsLeast_2 (wpX12_bringsLeast K) K t li lj Q
    refine ⟨fun _ v6 f6 => ?_, fun c1 => absurd ?_ c1⟩
    · have f6 : v6 = nI (r + 1) := by rw [f6, e4]; exact hs_inc r
      exact cont K (uI li 4 v6) (by omega) e1 e2 e3 f6
    · rw [hw, e5]; exact nI_le (by omega) (by omega)
  | succ n ih =>
    intro c K b li hn hK hb e1 e2 e3 e4 e5 cont
    obtain ⟨K, rfl⟩ : ∃ K', K = K' + 5 := ⟨K - 5, by omega⟩
    have hc : c < 60 := by omega
    have yes : hs_pick (t.2.2.2 4) b r c = some (r, c) → wpX12_bringsLeast (K + 4) 3 t li lj Q := by
      intro hp
      show wbX12_bringsLeast_3 (wpX12_bringsLeast (K + 3)) (K + 3) t li lj Q
      show wbX12_bringsLeast_5 (wpX12_bringsLeast (K + 2)) (K + 2) t (uI li 100 1) lj Q
      refine ⟨fun c1 => absurd (show (1 : Int32) = 0 from c1) (by decide), fun _ => ?_⟩
      show wbX12_bringsLeast_6 (wpX12_bringsLeast (K + 1)) (K + 1) t _ lj Q
      refine ⟨fun c1 => absurd (show (1 : Int32) = 0 from c1) (by decide), fun _ => ?_⟩
      show wbX12_bringsLeast_7 (wpX12_bringsLeast K) K t _ lj Q
      intro v f
      have f : v = nI (c + 1) := by rw [f]; exact (congrArg (· + Int32.ofInt 1) e5).trans (hs_inc c)
      refine ih (c + 1) K (some (r, c)) _ (by omega) (by omega) (fun p hp => by obtain rfl := Option.some.inj hp; exact ⟨hr, hc⟩) e1 e4 e5 e4 f ?_
      have cont' := cont
      rw [show hs_scanC (t.2.2.2 4) r (n + 1) c b = hs_scanC (t.2.2.2 4) r n (c + 1) (some (r, c)) by rw [← hp]; rfl] at cont'
      exact cont'
    have no : hs_pick (t.2.2.2 4) b r c = b → wpX12_bringsLeast (K + 4) 4 t li lj Q := by
      intro hp
      show wbX12_bringsLeast_4 (wpX12_bringsLeast (K + 3)) (K + 3) t li lj Q
      show wbX12_bringsLeast_5 (wpX12_bringsLeast (K + 2)) (K + 2) t (uI li 100 0) lj Q
      refine ⟨fun _ => ?_, fun c1 => absurd (show (0 : Int32) = 0 from rfl) c1⟩
      show wbX12_bringsLeast_6 (wpX12_bringsLeast (K + 1)) (K + 1) t _ lj Q
      refine ⟨fun _ => ?_, fun c1 => absurd (show (0 : Int32) = 0 from rfl) c1⟩
      show wbX12_bringsLeast_7 (wpX12_bringsLeast K) K t _ lj Q
      intro v f
      have f : v = nI (c + 1) := by rw [f]; exact (congrArg (· + Int32.ofInt 1) e5).trans (hs_inc c)
      refine ih (c + 1) K b _ (by omega) (by omega) hb e1 e2 e3 e4 f ?_
      have cont' := cont
      rw [show hs_scanC (t.2.2.2 4) r (n + 1) c b = hs_scanC (t.2.2.2 4) r n (c + 1) b by show hs_scanC (t.2.2.2 4) r n (c + 1) (hs_pick (t.2.2.2 4) b r c) = _; rw [hp]] at cont'
      exact cont'
    show wbX12_bringsLeast_2 (wpX12_bringsLeast (K + 4)) (K + 4) t li lj Q
    refine ⟨fun c1 => absurd (show t.1 7 ≤ li 5 from c1) ?_, fun _ => ?_⟩
    · rw [hw, e5]; exact nI_ge (by omega) (by omega)
    · rw [e4, e5]
      refine hs_cellK hr hc (by omega) ?_
      intro v8 f8
      refine ⟨fun c1 => no ?_, fun c1 => ⟨fun c2 => yes ?_, fun c2 => ?_⟩⟩
      · have z : t.2.2.2 4 (60 * r + c) = 0 := (hs_cmp0 _ _).mp (f8 ▸ c1)
        cases b with
        | none => exact if_pos z
        | some p => exact if_neg (fun q => q.1 z)
      · have z : ¬ t.2.2.2 4 (60 * r + c) = 0 := fun q => c1 (f8.trans ((hs_cmp0 _ _).mpr q))
        rw [(hs_bR_neg hb).mp (e2.symm.trans c2)]
        exact if_neg z
      · have z : ¬ t.2.2.2 4 (60 * r + c) = 0 := fun q => c1 (f8.trans ((hs_cmp0 _ _).mpr q))
        cases b with
        | none => exact absurd e2 c2
        | some p =>
          have hp := hb p rfl
          refine hs_cellK hr hc (by omega) ?_
          intro v12 f12
          rw [e2, e3]
          refine hs_cellK hp.1 hp.2 (by omega) ?_
          intro v14 f14 v15 f15
          refine ⟨fun c3 => no ?_, fun c3 => yes ?_⟩
          · have q := (hs_cmpge _ _).mp (f15 ▸ c3)
            rw [f12, f14] at q
            exact if_neg (fun u => q u.2)
          · have q : hs_abs (t.2.2.2 4 (60 * r + c)) < hs_abs (t.2.2.2 4 (60 * p.1 + p.2)) := by
              refine Decidable.byContradiction (fun u => c3 ?_)
              rw [f15]
              refine (hs_cmpge _ _).mpr ?_
              rw [f12, f14]
              exact u
            exact if_pos ⟨z, q⟩
theorem hs_outer {t : XT} {i h w : Nat} {lj : Nat → Int64} {Q : Int32 → XT → Prop} (hh : t.1 6 = nI h) (hw : t.1 7 = nI w) (hh60 : h ≤ 60) (hw60 : w ≤ 60) (hi : i < 60) (hiw : i ≤ w) :
    ∀ (n r K : Nat) (b : Option (Nat × Nat)) (li : Nat → Int32), r + n = h → n * (5 * w + 2) + 70 ≤ K → hs_ok b → li 1 = nI i → li 2 = hs_bR b → li 3 = hs_bC b → li 4 = nI r →
      (hs_scanR (t.2.2.2 4) i w n r b = none → Q 0 t) →
      (∀ p, hs_scanR (t.2.2.2 4) i w n r b = some p → Q 1 (sB t 4 (hs_swapCol h i p.2 (hs_swapRow w i p.1 (t.2.2.2 4))))) →
      wpX12_bringsLeast K 1 t li lj Q := by
  intro n
  induction n with
  | zero =>
    intro r K b li hn hK hb e1 e2 e3 e4 q0 q1
    obtain ⟨K, rfl⟩ : ∃ K', K = K' + 1 := ⟨K - 1, by omega⟩
    show wbX12_bringsLeast_1 (wpX12_bringsLeast K) K t li lj Q
    refine ⟨fun _ => ⟨fun c2 => ?_, fun c2 => ?_⟩, fun c1 => absurd ?_ c1⟩
    · cases b with
      | none => exact absurd e2 c2
      | some p =>
        have hp := hb p rfl
        rw [e1, e2, e3]
        refine hs_swapsRowsK hw hw60 hi hp.1 (by omega) ?_
        refine hs_swapsColumnsK (t := sB t 4 (hs_swapRow w i p.1 (t.2.2.2 4))) hh hh60 hi hp.2 (by omega) ?_
        rw [hs_sBB]
        exact q1 p rfl
    · exact q0 ((hs_bR_neg hb).mp (e2.symm.trans c2))
    · rw [hh, e4]; exact nI_le (by omega) (by omega)
  | succ n ih =>
    intro r K b li hn hK hb e1 e2 e3 e4 q0 q1
    obtain ⟨K, rfl⟩ : ∃ K', K = K' + 1 := ⟨K - 1, by omega⟩
    have hK : n * (5 * w + 2) + (5 * w + 2) + 70 ≤ K + 1 := by rw [Nat.succ_mul] at hK; exact hK
    show wbX12_bringsLeast_1 (wpX12_bringsLeast K) K t li lj Q
    refine ⟨fun c1 => absurd (show t.1 6 ≤ li 4 from c1) ?_, fun _ => ?_⟩
    · rw [hh, e4]; exact nI_ge (by omega) (by omega)
    · refine hs_inner (i := i) (r := r) hw hw60 (by omega) (n * (5 * w + 2) + 70) (w - i) i K b (uI li 5 (li 1)) (by omega) (by omega) hb e1 e2 e3 e4 e1 ?_
      intro K' li' hK' g1 g2 g3 g4
      exact ih (r + 1) K' _ li' (by omega) hK' (hs_scanC_ok (by omega) (w - i) i b (by omega) hb) g1 g2 g3 g4 q0 q1
def hs_least (T : Nat → Int64) (i h w : Nat) : Option (Nat × Nat) := hs_scanR T i w (h - i) i none
theorem hs_bringsLeast {t : XT} {i h w K : Nat} {Q : Int32 → XT → Prop} (hh : t.1 6 = nI h) (hw : t.1 7 = nI w) (hh60 : h ≤ 60) (hw60 : w ≤ 60) (hih : i < h) (hiw : i < w) (hK : 60 * (5 * 60 + 2) + 71 ≤ K) (q0 : hs_least (t.2.2.2 4) i h w = none → Q 0 t)
    (q1 : ∀ p, hs_least (t.2.2.2 4) i h w = some p → Q 1 (sB t 4 (hs_swapCol h i p.2 (hs_swapRow w i p.1 (t.2.2.2 4))))) : wqX12_bringsLeast K t (nI i) Q := by
  obtain ⟨K, rfl⟩ : ∃ K', K = K' + 1 := ⟨K - 1, by omega⟩
  show wbX12_bringsLeast_0 (wpX12_bringsLeast K) K t (uI (fun _ => 0) 1 (nI i)) (fun _ => 0) Q
  have m : (h - i) * (5 * w + 2) ≤ 60 * (5 * 60 + 2) := Nat.mul_le_mul (by omega) (by omega)
  exact hs_outer hh hw hh60 hw60 (by omega) (by omega) (h - i) i K none _ (by omega) (by omega) (fun p q => absurd q (by simp)) rfl rfl rfl rfl q0 q1
