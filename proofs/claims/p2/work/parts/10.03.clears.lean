/-! ===== the reference's elimination, without the machine: clears, undivided ===== -/
def hs_clearR (w i : Nat) : Nat → Nat → (Nat → Int64) → (Nat → Int64)
  | 0, _, T => T
  | n + 1, r, T => hs_clearR w i n (r + 1) (hs_addRow w r i (-(T (60 * r + i) / T (60 * i + i))) T)
def hs_flagR (w i : Nat) : Nat → Nat → (Nat → Int64) → Bool → Bool
  | 0, _, _, f => f
  | n + 1, r, T, f => hs_flagR w i n (r + 1) (hs_addRow w r i (-(T (60 * r + i) / T (60 * i + i))) T) (f && decide (hs_addRow w r i (-(T (60 * r + i) / T (60 * i + i))) T (60 * r + i) = 0))
def hs_clearC (h i : Nat) : Nat → Nat → (Nat → Int64) → (Nat → Int64)
  | 0, _, T => T
  | n + 1, c, T => hs_clearC h i n (c + 1) (hs_addCol h c i (-(T (60 * i + c) / T (60 * i + i))) T)
def hs_flagC (h i : Nat) : Nat → Nat → (Nat → Int64) → Bool → Bool
  | 0, _, _, f => f
  | n + 1, c, T, f => hs_flagC h i n (c + 1) (hs_addCol h c i (-(T (60 * i + c) / T (60 * i + i))) T) (f && decide (hs_addCol h c i (-(T (60 * i + c) / T (60 * i + i))) T (60 * i + c) = 0))
def hs_b (f : Bool) : Int32 := cond f 1 0
theorem hs_b0 (f : Bool) : hs_b f = 0 ↔ f = false := by
  cases f with
  | true => exact ⟨fun q => absurd q (by decide), fun q => absurd q (by decide)⟩
  | false => exact ⟨fun _ => rfl, fun _ => rfl⟩
theorem hs_addRow_piv {w r i : Nat} {x : Int64} {T : Nat → Int64} (hw : w ≤ 60) (hr : r ≠ i) (hi : i < 60) : hs_addRow w r i x T (60 * i + i) = T (60 * i + i) := if_neg (by omega)
theorem hs_addCol_piv {h c i : Nat} {x : Int64} {T : Nat → Int64} (hc : c ≠ i) (hi : i < 60) : hs_addCol h c i x T (60 * i + i) = T (60 * i + i) := if_neg (by omega)
theorem hs_clearR_go {t : XT} {i h w : Nat} {lj : Nat → Int64} {Q : Int32 → XT → Prop} (hh : t.1 6 = nI h) (hw : t.1 7 = nI w) (hh60 : h ≤ 60) (hw60 : w ≤ 60) (hi : i < 60) (L : Nat) (hL : 70 ≤ L) :
    ∀ (n r K : Nat) (T : Nat → Int64) (f : Bool) (li : Nat → Int32), r + n = h → i < r → 3 * n + L + 1 ≤ K → T (60 * i + i) ≠ 0 → li 1 = nI i → li 2 = hs_b f → li 3 = nI r →
      (∀ (K' : Nat) (li' : Nat → Int32), L ≤ K' → li' 1 = nI i → li' 2 = hs_b (hs_flagR w i n r T f) → li' 3 = nI (i + 1) → wpX12_clears K' 4 (sB t 4 (hs_clearR w i n r T)) li' lj Q) →
      wpX12_clears K 1 (sB t 4 T) li lj Q := by
  intro n
  induction n with
  | zero =>
    intro r K T f li hn hr hK hp e1 e2 e3 cont
    obtain ⟨K, rfl⟩ : ∃ K', K = K' + 1 := ⟨K - 1, by omega⟩
    show wbX12_clears_1 (wpX12_clears K) K (sB t 4 T) li lj Q
    refine ⟨fun _ v3 f3 => ?_, fun c1 => absurd ?_ c1⟩
    · have f3 : v3 = nI (i + 1) := by rw [f3, e1]; exact nI_1 i
      exact cont K (uI li 3 v3) (by omega) e1 e2 f3
    · show t.1 6 ≤ li 3
      rw [hh, e3]; exact nI_le (by omega) (by omega)
  | succ n ih =>
    intro r K T f li hn hr hK hp e1 e2 e3 cont
    obtain ⟨K, rfl⟩ : ∃ K', K = K' + 3 := ⟨K - 3, by omega⟩
    let T' := hs_addRow w r i (-(T (60 * r + i) / T (60 * i + i))) T
    have hp' : T' (60 * i + i) ≠ 0 := by
      show hs_addRow w r i (-(T (60 * r + i) / T (60 * i + i))) T (60 * i + i) ≠ 0
      rw [hs_addRow_piv hw60 (by omega) hi]; exact hp
    have nx : ∀ (K2 : Nat) (g : Bool), K + 1 ≤ K2 → g = (f && decide (T' (60 * r + i) = 0)) → wpX12_clears K2 3 (sB t 4 T') (uI li 100 (hs_b g)) lj Q := by
      intro K2 g hK2 hg
      subst hg
      obtain ⟨K2, rfl⟩ : ∃ K', K2 = K' + 1 := ⟨K2 - 1, by omega⟩
      show wbX12_clears_3 (wpX12_clears K2) K2 (sB t 4 T') _ lj Q
      intro v f13
      have f13 : v = nI (r + 1) := by rw [f13]; exact (congrArg (· + Int32.ofInt 1) e3).trans (hs_inc r)
      exact ih (r + 1) K2 T' _ _ (by omega) (by omega) (by omega) hp' e1 rfl f13 cont
    have no : ∀ (K2 : Nat), K + 2 ≤ K2 → (f && decide (T' (60 * r + i) = 0)) = false → wpX12_clears K2 2 (sB t 4 T') li lj Q := by
      intro K2 hK2 hg
      obtain ⟨K2, rfl⟩ : ∃ K', K2 = K' + 1 := ⟨K2 - 1, by omega⟩
      show wbX12_clears_2 (wpX12_clears K2) K2 (sB t 4 T') li lj Q
      exact nx K2 false (by omega) hg.symm
    show wbX12_clears_1 (wpX12_clears (K + 2)) (K + 2) (sB t 4 T) li lj Q
    refine ⟨fun c1 => absurd (show t.1 6 ≤ li 3 from c1) ?_, fun _ => ?_⟩
    · rw [hh, e3]; exact nI_ge (by omega) (by omega)
    · rw [e1, e3]
      refine hs_cellK (by omega) hi (by omega) ?_
      refine hs_cellK hi hi (by omega) ?_
      refine ⟨hp, fun v6 f6 v7 f7 => ?_⟩
      refine hs_addsRowK (t := sB t 4 T) hw hw60 (by omega) hi (by omega) (by omega) ?_
      rw [hs_sBB]
      have hT : hs_addRow w r i v7 ((sB t 4 T).2.2.2 4) = T' := by
        show hs_addRow w r i v7 T = hs_addRow w r i (-(T (60 * r + i) / T (60 * i + i))) T
        rw [f7, f6]; rfl
      rw [hT]
      refine ⟨fun c2 => no _ (by omega) ?_, fun c2 => ?_⟩
      · have z := (hs_b0 f).mp (e2.symm.trans c2)
        rw [z]; rfl
      · have z : f = true := by
          cases f with
          | true => rfl
          | false => exact absurd e2 c2
        refine hs_cellK (by omega) hi (by omega) ?_
        intro v11 f11
        refine ⟨fun c3 => no _ (by omega) ?_, fun c3 => ?_⟩
        · have y : ¬ T' (60 * r + i) = 0 := fun q => c3 (f11.trans ((hs_cmp0 _ _).mpr q))
          rw [z, decide_eq_false y]; rfl
        · have y : T' (60 * r + i) = 0 := (hs_cmp0 _ _).mp (f11 ▸ c3)
          refine nx _ true (by omega) ?_
          rw [z, decide_eq_true y]; rfl
theorem hs_clearC_go {t : XT} {i h w : Nat} {lj : Nat → Int64} {Q : Int32 → XT → Prop} (hh : t.1 6 = nI h) (hw : t.1 7 = nI w) (hh60 : h ≤ 60) (hw60 : w ≤ 60) (hi : i < 60) :
    ∀ (n c K : Nat) (T : Nat → Int64) (f : Bool) (li : Nat → Int32), c + n = w → i < c → 3 * n + 70 ≤ K → T (60 * i + i) ≠ 0 → li 1 = nI i → li 2 = hs_b f → li 3 = nI c →
      Q (hs_b (hs_flagC h i n c T f)) (sB t 4 (hs_clearC h i n c T)) →
      wpX12_clears K 4 (sB t 4 T) li lj Q := by
  intro n
  induction n with
  | zero =>
    intro c K T f li hn hr hK hp e1 e2 e3 q
    obtain ⟨K, rfl⟩ : ∃ K', K = K' + 1 := ⟨K - 1, by omega⟩
    show wbX12_clears_4 (wpX12_clears K) K (sB t 4 T) li lj Q
    refine ⟨fun _ => ?_, fun c1 => absurd ?_ c1⟩
    · rw [e2]
      refine ⟨?_, q⟩
      cases f with
      | true => exact Or.inr rfl
      | false => exact Or.inl rfl
    · show t.1 7 ≤ li 3
      rw [hw, e3]; exact nI_le (by omega) (by omega)
  | succ n ih =>
    intro c K T f li hn hr hK hp e1 e2 e3 q
    obtain ⟨K, rfl⟩ : ∃ K', K = K' + 3 := ⟨K - 3, by omega⟩
    let T' := hs_addCol h c i (-(T (60 * i + c) / T (60 * i + i))) T
    have hp' : T' (60 * i + i) ≠ 0 := by
      show hs_addCol h c i (-(T (60 * i + c) / T (60 * i + i))) T (60 * i + i) ≠ 0
      rw [hs_addCol_piv (by omega) hi]; exact hp
    have nx : ∀ (K2 : Nat) (g : Bool), K + 1 ≤ K2 → g = (f && decide (T' (60 * i + c) = 0)) → wpX12_clears K2 6 (sB t 4 T') (uI li 100 (hs_b g)) lj Q := by
      intro K2 g hK2 hg
      subst hg
      obtain ⟨K2, rfl⟩ : ∃ K', K2 = K' + 1 := ⟨K2 - 1, by omega⟩
      show wbX12_clears_6 (wpX12_clears K2) K2 (sB t 4 T') _ lj Q
      intro v f13
      have f13 : v = nI (c + 1) := by rw [f13]; exact (congrArg (· + Int32.ofInt 1) e3).trans (hs_inc c)
      exact ih (c + 1) K2 T' _ _ (by omega) (by omega) (by omega) hp' e1 rfl f13 q
    have no : ∀ (K2 : Nat), K + 2 ≤ K2 → (f && decide (T' (60 * i + c) = 0)) = false → wpX12_clears K2 5 (sB t 4 T') li lj Q := by
      intro K2 hK2 hg
      obtain ⟨K2, rfl⟩ : ∃ K', K2 = K' + 1 := ⟨K2 - 1, by omega⟩
      show wbX12_clears_5 (wpX12_clears K2) K2 (sB t 4 T') li lj Q
      exact nx K2 false (by omega) hg.symm
    show wbX12_clears_4 (wpX12_clears (K + 2)) (K + 2) (sB t 4 T) li lj Q
    refine ⟨fun c1 => absurd (show t.1 7 ≤ li 3 from c1) ?_, fun _ => ?_⟩
    · rw [hw, e3]; exact nI_ge (by omega) (by omega)
    · rw [e1, e3]
      refine hs_cellK hi (by omega) (by omega) ?_
      refine hs_cellK hi hi (by omega) ?_
      refine ⟨hp, fun v6 f6 v7 f7 => ?_⟩
      refine hs_addsColumnK (t := sB t 4 T) hh hh60 (by omega) hi (by omega) (by omega) ?_
      rw [hs_sBB]
      have hT : hs_addCol h c i v7 ((sB t 4 T).2.2.2 4) = T' := by
        show hs_addCol h c i v7 T = hs_addCol h c i (-(T (60 * i + c) / T (60 * i + i))) T
        rw [f7, f6]; rfl
      rw [hT]
      refine ⟨fun c2 => no _ (by omega) ?_, fun c2 => ?_⟩
      · have z := (hs_b0 f).mp (e2.symm.trans c2)
        rw [z]; rfl
      · have z : f = true := by
          cases f with
          | true => rfl
          | false => exact absurd e2 c2
        refine hs_cellK hi (by omega) (by omega) ?_
        intro v11 f11
        refine ⟨fun c3 => no _ (by omega) ?_, fun c3 => ?_⟩
        · have y : ¬ T' (60 * i + c) = 0 := fun q => c3 (f11.trans ((hs_cmp0 _ _).mpr q))
          rw [z, decide_eq_false y]; rfl
        · have y : T' (60 * i + c) = 0 := (hs_cmp0 _ _).mp (f11 ▸ c3)
          refine nx _ true (by omega) ?_
          rw [z, decide_eq_true y]; rfl
def hs_clearT (h w i : Nat) (T : Nat → Int64) : Nat → Int64 := hs_clearC h i (w - (i + 1)) (i + 1) (hs_clearR w i (h - (i + 1)) (i + 1) T)
def hs_clearF (h w i : Nat) (T : Nat → Int64) : Bool := hs_flagC h i (w - (i + 1)) (i + 1) (hs_clearR w i (h - (i + 1)) (i + 1) T) (hs_flagR w i (h - (i + 1)) (i + 1) T true)
theorem hs_clearR_piv {w i : Nat} (hw : w ≤ 60) (hi : i < 60) : ∀ (n r : Nat) (T : Nat → Int64), i < r → hs_clearR w i n r T (60 * i + i) = T (60 * i + i) := by
  intro n
  induction n with
  | zero => intro r T _; rfl
  | succ n ih =>
    intro r T hr
    show hs_clearR w i n (r + 1) _ (60 * i + i) = _
    rw [ih (r + 1) _ (by omega), hs_addRow_piv hw (by omega) hi]
theorem hs_clears {t : XT} {i h w K : Nat} {T : Nat → Int64} {Q : Int32 → XT → Prop} (hh : t.1 6 = nI h) (hw : t.1 7 = nI w) (hh60 : h ≤ 60) (hw60 : w ≤ 60) (hih : i < h) (hiw : i < w) (hK : 500 ≤ K) (hp : T (60 * i + i) ≠ 0)
    (q : Q (hs_b (hs_clearF h w i T)) (sB t 4 (hs_clearT h w i T))) : wqX12_clears K (sB t 4 T) (nI i) Q := by
  obtain ⟨K, rfl⟩ : ∃ K', K = K' + 1 := ⟨K - 1, by omega⟩
  show wbX12_clears_0 (wpX12_clears K) K (sB t 4 T) (uI (fun _ => 0) 1 (nI i)) (fun _ => 0) Q
  intro v1 f1
  have f1 : v1 = nI (i + 1) := by rw [f1]; exact nI_1 i
  refine hs_clearR_go hh hw hh60 hw60 (by omega) 250 (by decide) (h - (i + 1)) (i + 1) K T true _ (by omega) (by omega) (by omega) hp rfl rfl f1 ?_
  intro K' li' hK' g1 g2 g3
  refine hs_clearC_go hh hw hh60 hw60 (by omega) (w - (i + 1)) (i + 1) K' _ _ li' (by omega) (by omega) (by omega) ?_ g1 g2 g3 q
  rw [hs_clearR_piv hw60 (by omega) _ _ _ (by omega)]; exact hp
def hs_rem (x a : Int64) : Int64 := x - x / a * a
theorem hs_undiv_in {t : XT} {i r h w : Nat} {lj : Nat → Int64} {Q : Int32 → XT → Prop} (hw : t.1 7 = nI w) (hw60 : w ≤ 60) (hi : i < 60) (hr : r < 60) (hp : t.2.2.2 4 (60 * i + i) ≠ 0) (L : Nat)
    (q1 : ∀ c, i < c → c < w → hs_rem (t.2.2.2 4 (60 * r + c)) (t.2.2.2 4 (60 * i + i)) ≠ 0 → Q (nI r) t) :
    ∀ (n c K : Nat) (li : Nat → Int32), c + n = w → i < c → n + L + 1 ≤ K → li 1 = nI i → li 2 = nI r → li 3 = nI c → (∀ c', i < c' → c' < c → hs_rem (t.2.2.2 4 (60 * r + c')) (t.2.2.2 4 (60 * i + i)) = 0) →
      (∀ (K' : Nat) (li' : Nat → Int32), L ≤ K' → li' 1 = nI i → li' 2 = nI (r + 1) → (∀ c', i < c' → c' < w → hs_rem (t.2.2.2 4 (60 * r + c')) (t.2.2.2 4 (60 * i + i)) = 0) → wpX12_undivided K' 1 t li' lj Q) →
      wpX12_undivided K 2 t li lj Q := by
  intro n
  induction n with
  | zero =>
    intro c K li hn hc hK e1 e2 e3 hz cont
    obtain ⟨K, rfl⟩ : ∃ K', K = K' + 1 := ⟨K - 1, by omega⟩
    show wbX12_undivided_2 (wpX12_undivided K) K t li lj Q
    refine ⟨fun _ v5 f5 => ?_, fun c1 => absurd ?_ c1⟩
    · have f5 : v5 = nI (r + 1) := by rw [f5, e2]; exact hs_inc r
      exact cont K (uI li 2 v5) (by omega) e1 f5 (fun c' a b => hz c' a (by omega))
    · rw [hw, e3]; exact nI_le (by omega) (by omega)
  | succ n ih =>
    intro c K li hn hc hK e1 e2 e3 hz cont
    obtain ⟨K, rfl⟩ : ∃ K', K = K' + 1 := ⟨K - 1, by omega⟩
    show wbX12_undivided_2 (wpX12_undivided K) K t li lj Q
    refine ⟨fun c1 => absurd (show t.1 7 ≤ li 3 from c1) ?_, fun _ => ?_⟩
    · rw [hw, e3]; exact nI_ge (by omega) (by omega)
    · rw [e1, e2, e3]
      refine hs_cellK hr (by omega) (by omega) ?_
      refine hs_cellK hi hi (by omega) ?_
      refine ⟨hp, fun v8 f8 v9 f9 => ⟨fun c2 v11 f11 => ?_, fun c2 => ?_⟩⟩
      · have z : hs_rem (t.2.2.2 4 (60 * r + c)) (t.2.2.2 4 (60 * i + i)) = 0 := by
          have y := (hs_cmp0 _ _).mp (f9 ▸ c2)
          rw [f8] at y; exact y
        have f11 : v11 = nI (c + 1) := by rw [f11]; exact hs_inc c
        refine ih (c + 1) K (uI li 3 v11) (by omega) (by omega) (by omega) e1 e2 f11 ?_ cont
        intro c' a b
        by_cases hcc : c' = c
        · rw [hcc]; exact z
        · exact hz c' a (by omega)
      · refine q1 c hc (by omega) (fun z => c2 ?_)
        rw [f9, f8]
        exact (hs_cmp0 _ _).mpr z
theorem hs_undiv_go {t : XT} {i h w : Nat} {lj : Nat → Int64} {Q : Int32 → XT → Prop} (hh : t.1 6 = nI h) (hw : t.1 7 = nI w) (hh60 : h ≤ 60) (hw60 : w ≤ 60) (hi : i < 60) (hiw : i < w) (hp : t.2.2.2 4 (60 * i + i) ≠ 0)
    (q0 : (∀ r c, i < r → r < h → i < c → c < w → hs_rem (t.2.2.2 4 (60 * r + c)) (t.2.2.2 4 (60 * i + i)) = 0) → Q (-1) t)
    (q1 : ∀ r c, i < r → r < h → i < c → c < w → hs_rem (t.2.2.2 4 (60 * r + c)) (t.2.2.2 4 (60 * i + i)) ≠ 0 → Q (nI r) t) :
    ∀ (n r K : Nat) (li : Nat → Int32), r + n = h → i < r → n * (w + 2) + 10 ≤ K → li 1 = nI i → li 2 = nI r → (∀ r' c, i < r' → r' < r → i < c → c < w → hs_rem (t.2.2.2 4 (60 * r' + c)) (t.2.2.2 4 (60 * i + i)) = 0) → wpX12_undivided K 1 t li lj Q := by
  intro n
  induction n with
  | zero =>
    intro r K li hn hr hK e1 e2 hz
    obtain ⟨K, rfl⟩ : ∃ K', K = K' + 1 := ⟨K - 1, by omega⟩
    show wbX12_undivided_1 (wpX12_undivided K) K t li lj Q
    refine ⟨fun _ => q0 (fun r' c a b d e => hz r' c a (by omega) d e), fun c1 => absurd ?_ c1⟩
    rw [hh, e2]; exact nI_le (by omega) (by omega)
  | succ n ih =>
    intro r K li hn hr hK e1 e2 hz
    obtain ⟨K, rfl⟩ : ∃ K', K = K' + 1 := ⟨K - 1, by omega⟩
    have hK : n * (w + 2) + (w + 2) + 10 ≤ K + 1 := by rw [Nat.succ_mul] at hK; exact hK
    show wbX12_undivided_1 (wpX12_undivided K) K t li lj Q
    refine ⟨fun c1 => absurd (show t.1 6 ≤ li 2 from c1) ?_, fun _ v3 f3 => ?_⟩
    · rw [hh, e2]; exact nI_ge (by omega) (by omega)
    · have f3 : v3 = nI (i + 1) := by rw [f3, e1]; exact nI_1 i
      refine hs_undiv_in (h := h) hw hw60 hi (by omega) hp (n * (w + 2) + 10) (fun c a b d => q1 r c hr (by omega) a b d) (w - (i + 1)) (i + 1) K (uI li 3 v3) (by omega) (by omega) (by omega) e1 e2 f3 (fun c' a b => absurd b (by omega)) ?_
      intro K' li' hK' g1 g2 g3
      refine ih (r + 1) K' li' (by omega) (by omega) hK' g1 g2 ?_
      intro r' c a b d e
      by_cases hrr : r' = r
      · rw [hrr]; exact g3 c d e
      · exact hz r' c a (by omega) d e
theorem hs_undivided {t : XT} {i h w K : Nat} {Q : Int32 → XT → Prop} (hh : t.1 6 = nI h) (hw : t.1 7 = nI w) (hh60 : h ≤ 60) (hw60 : w ≤ 60) (hih : i < h) (hiw : i < w) (hK : 60 * (60 + 2) + 11 ≤ K) (hp : t.2.2.2 4 (60 * i + i) ≠ 0)
    (q0 : (∀ r c, i < r → r < h → i < c → c < w → hs_rem (t.2.2.2 4 (60 * r + c)) (t.2.2.2 4 (60 * i + i)) = 0) → Q (-1) t)
    (q1 : ∀ r c, i < r → r < h → i < c → c < w → hs_rem (t.2.2.2 4 (60 * r + c)) (t.2.2.2 4 (60 * i + i)) ≠ 0 → Q (nI r) t) : wqX12_undivided K t (nI i) Q := by
  obtain ⟨K, rfl⟩ : ∃ K', K = K' + 1 := ⟨K - 1, by omega⟩
  show wbX12_undivided_0 (wpX12_undivided K) K t (uI (fun _ => 0) 1 (nI i)) (fun _ => 0) Q
  intro v1 f1
  have f1 : v1 = nI (i + 1) := by rw [f1]; exact nI_1 i
  have m : (h - (i + 1)) * (w + 2) ≤ 60 * (60 + 2) := Nat.mul_le_mul (by omega) (by omega)
  exact hs_undiv_go hh hw hh60 hw60 (by omega) hiw hp q0 q1 (h - (i + 1)) (i + 1) K _ (by omega) (by omega) (by omega) rfl f1 (fun r' c a b => absurd b (by omega))
