/-! ===== reading, exactly, on both sides: the byte at a place, blanks, letters ===== -/
theorem hre_at {t : XT} {y p K : Nat} {Q : Int32 → XT → Prop} (h1 : t.1 1 = nI y) (hy : y ≤ 160) (hp : p < 2 ^ 30) (hK : 2 ≤ K) (h : Q (if p < y then t.2.2.1 0 p else -1) t) : wqX10_at K t (nI p) Q := by
  obtain ⟨K, rfl⟩ : ∃ K', K = K' + 2 := ⟨K - 2, by omega⟩
  show wbX10_at_0 (wpX10_at (K + 1)) (K + 1) t (uI (fun _ => 0) 1 (nI p)) (fun _ => 0) Q
  have out : ¬ p < y → wpX10_at (K + 1) 1 t (uI (fun _ => 0) 1 (nI p)) (fun _ => 0) Q := fun c => by
    rw [if_neg c] at h; exact h
  refine ⟨fun x => absurd (show nI p < 0 from x) (nI_pos (by omega)), fun _ => ⟨fun le => out (fun lt => ?_), fun lt => ?_⟩⟩
  · have le : t.1 1 ≤ nI p := le
    rw [h1] at le
    exact absurd le (nI_ge (by omega) (by omega))
  · have lt : ¬ t.1 1 ≤ nI p := lt
    rw [h1] at lt
    have hlt : p < y := Nat.lt_of_not_le (fun q => lt (nI_le q (by omega)))
    rw [if_pos hlt] at h
    refine ⟨vp_in_nI (n := p) (by omega) (by decide), fun v e => ?_⟩
    rw [e]
    show Q (t.2.2.1 0 (nI p).toNatClampNeg) t
    rw [nI_clamp (by omega)]; exact h
theorem hre_byte {t : XT} {B : Nat → Int32} {p z K : Nat} {v : Int32} {Q : Int32 → XT → Prop} (hz : t.1 0 = nI z) (hz160 : z ≤ 160) (hp : p < 2 ^ 30) (hK : 1 ≤ K) (h : Q (if p < z then t.2.2.1 0 p &&& 255 else -1) (hq_st t B p v)) : wqX12_byteNow K (hq_st t B p v) Q := by
  obtain ⟨K, rfl⟩ : ∃ K', K = K' + 1 := ⟨K - 1, by omega⟩
  show wbX12_byteNow_0 (wpX12_byteNow K) K (hq_st t B p v) (fun _ => 0) (fun _ => 0) Q
  refine ⟨fun le => ?_, fun x => ?_⟩
  · have le : t.1 0 ≤ nI p := le
    rw [hz] at le
    have c : ¬ p < z := fun lt => absurd le (nI_ge (by omega) (by omega))
    rw [if_neg c] at h; exact h
  · have lt : p < z := by
      refine Nat.lt_of_not_le (fun y => x ?_)
      show t.1 0 ≤ nI p
      rw [hz]; exact nI_le (by omega) (by omega)
    rw [if_pos lt] at h
    refine ⟨vp_in_nI (n := p) (by omega) (by decide), fun v2 e2 v3 e3 => ?_⟩
    have e2 : v2 = t.2.2.1 0 (nI p).toNatClampNeg := e2
    rw [nI_clamp (by omega)] at e2
    rw [e3, e2]; exact h
/-- where the blanks from p on end, d places looked at -/
def hre_sk (D : Nat → Int32) : Nat → Nat → Nat
  | 0, p => p
  | d + 1, p => if D p = 32 then hre_sk D d (p + 1) else p
theorem hre_sk_in (D : Nat → Int32) : ∀ d p, p ≤ hre_sk D d p ∧ hre_sk D d p ≤ p + d := by
  intro d
  induction d with
  | zero => exact fun p => ⟨Nat.le_refl p, Nat.le_refl p⟩
  | succ d ih =>
    intro p
    show p ≤ (if D p = 32 then hre_sk D d (p + 1) else p) ∧ (if D p = 32 then hre_sk D d (p + 1) else p) ≤ p + (d + 1)
    have h := ih (p + 1)
    by_cases c : D p = 32
    · rw [if_pos c]; exact ⟨by omega, by omega⟩
    · rw [if_neg c]; exact ⟨by omega, by omega⟩
theorem hre_sk_ext {D E : Nat → Int32} : ∀ d p, (∀ i, i < p + d → D i = E i) → hre_sk D d p = hre_sk E d p := by
  intro d
  induction d with
  | zero => exact fun p _ => rfl
  | succ d ih =>
    intro p h
    show (if D p = 32 then hre_sk D d (p + 1) else p) = (if E p = 32 then hre_sk E d (p + 1) else p)
    rw [h p (by omega), ih (p + 1) (fun i hi => h i (by omega))]
theorem hre_blanks_go {t : XT} {B : Nat → Int32} {z : Nat} {v : Int32} {li : Nat → Int32} {lj : Nat → Int64} {Q : XT → Prop} (hz : t.1 0 = nI z) (hz160 : z ≤ 160) :
    ∀ (d p K : Nat), p + d = z → d + 3 ≤ K → Q (hq_st t B (hre_sk (fun i => t.2.2.1 0 i &&& 255) d p) v) → wpX12_blanks K 0 (hq_st t B p v) li lj Q := by
  intro d
  induction d with
  | zero =>
    intro p K hd hK hQ
    obtain ⟨K, rfl⟩ : ∃ K', K = K' + 1 := ⟨K - 1, by omega⟩
    show wbX12_blanks_0 (wpX12_blanks K) K (hq_st t B p v) li lj Q
    refine hre_byte hz hz160 (by omega) (by omega) ?_
    rw [if_neg (by omega)]
    exact ⟨fun _ => hQ, fun x => absurd x (by decide)⟩
  | succ d ih =>
    intro p K hd hK hQ
    obtain ⟨K, rfl⟩ : ∃ K', K = K' + 1 := ⟨K - 1, by omega⟩
    show wbX12_blanks_0 (wpX12_blanks K) K (hq_st t B p v) li lj Q
    refine hre_byte hz hz160 (by omega) (by omega) ?_
    rw [if_pos (by omega)]
    have hQ : Q (hq_st t B (if t.2.2.1 0 p &&& 255 = 32 then hre_sk (fun i => t.2.2.1 0 i &&& 255) d (p + 1) else p) v) := hQ
    refine ⟨fun c => ?_, fun c v3 e3 t4 e4 => ?_⟩
    · rw [if_neg c] at hQ; exact hQ
    · rw [if_pos c] at hQ
      have e3 : v3 = nI (p + 1) := e3.trans (nI_1 p)
      rw [e4, e3, hq_st_p]
      exact ih (p + 1) K (by omega) (by omega) hQ
theorem hre_blanks {t : XT} {B : Nat → Int32} {p z K : Nat} {v : Int32} {Q : XT → Prop} (hz : t.1 0 = nI z) (hz160 : z ≤ 160) (hp : p ≤ z) (hK : 200 ≤ K) (hQ : Q (hq_st t B (hre_sk (fun i => t.2.2.1 0 i &&& 255) (z - p) p) v)) : wqX12_blanks K (hq_st t B p v) Q :=
  hre_blanks_go hz hz160 (z - p) p K (by omega) (by omega) hQ
theorem hre_sI3 (t : XT) (a b : Int32) : sI (sI t 3 a) 3 b = sI t 3 b := by
  unfold sI uI
  refine Prod.ext ?_ rfl
  funext j
  show cond (Nat.beq j 3) b (cond (Nat.beq j 3) a (t.1 j)) = cond (Nat.beq j 3) b (t.1 j)
  cases Nat.beq j 3 <;> rfl
theorem hre_skip_go {t : XT} {y : Nat} {li : Nat → Int32} {lj : Nat → Int64} {Q : XT → Prop} (h1 : t.1 1 = nI y) (hy : y ≤ 160) :
    ∀ (d p K : Nat), p + d = y → d + 5 ≤ K → Q (sI t 3 (nI (hre_sk (t.2.2.1 0) d p))) → wpX8_skipBlanks_c1 K 0 (sI t 3 (nI p)) li lj Q := by
  intro d
  induction d with
  | zero =>
    intro p K hd hK hQ
    obtain ⟨K, rfl⟩ : ∃ K', K = K' + 1 := ⟨K - 1, by omega⟩
    show wbX8_skipBlanks_c1_0 (wpX8_skipBlanks_c1 K) K (sI t 3 (nI p)) li lj Q
    refine ⟨fun _ => hQ, fun x => absurd (show t.1 1 ≤ nI p from ?_) x⟩
    rw [h1]; exact nI_le (by omega) (by omega)
  | succ d ih =>
    intro p K hd hK hQ
    obtain ⟨K, rfl⟩ : ∃ K', K = K' + 1 := ⟨K - 1, by omega⟩
    show wbX8_skipBlanks_c1_0 (wpX8_skipBlanks_c1 K) K (sI t 3 (nI p)) li lj Q
    have hQ : Q (sI t 3 (nI (if t.2.2.1 0 p = 32 then hre_sk (t.2.2.1 0) d (p + 1) else p))) := hQ
    refine ⟨fun x => ?_, fun _ => ?_⟩
    · have x : t.1 1 ≤ nI p := x
      rw [h1] at x
      exact absurd x (nI_ge (by omega) (by omega))
    · refine hre_at (t := sI t 3 (nI p)) (p := p) h1 hy (by omega) (by omega) ?_
      rw [if_pos (by omega)]
      refine ⟨fun c => ?_, fun c v4 e4 t5 e5 => ?_⟩
      · have c : ¬ t.2.2.1 0 p = 32 := c
        rw [if_neg c] at hQ; exact hQ
      · have c : t.2.2.1 0 p = 32 := c
        rw [if_pos c] at hQ
        have e4 : v4 = nI (p + 1) := e4.trans (nI_1 p)
        rw [e5, e4, hre_sI3]
        exact ih (p + 1) K (by omega) (by omega) hQ
theorem hre_skip {t : XT} {y p K : Nat} {Q : XT → Prop} (h1 : t.1 1 = nI y) (hy : y ≤ 160) (hp : p ≤ y) (hK : 170 ≤ K) (hQ : Q (sI t 3 (nI (hre_sk (t.2.2.1 0) (y - p) p)))) : wqX8_skipBlanks_c1 K (sI t 3 (nI p)) Q :=
  hre_skip_go h1 hy (y - p) p K (by omega) (by omega) hQ
theorem hre_letterX {K : Nat} {a : Int32} {Q : Int32 → Prop} (hK : 2 ≤ K) (h : Q (if (97 : Int32) ≤ a ∧ a ≤ 104 then 1 else 0)) : wqX8_isLetter K a Q := by
  obtain ⟨K, rfl⟩ : ∃ K', K = K' + 2 := ⟨K - 2, by omega⟩
  have no : ¬ ((97 : Int32) ≤ a ∧ a ≤ 104) → Q 0 := fun c => by rw [if_neg c] at h; exact h
  show wbX8_isLetter_0 (wpX8_isLetter (K + 1)) (K + 1) (uI (fun _ => 0) 0 a) (fun _ => 0) Q
  refine ⟨fun x => no (fun c => ?_), fun x => ⟨fun y => no (fun c => ?_), fun y => ?_⟩⟩
  · have x : a < 97 := x
    exact absurd c.1 (Int32.not_le.mpr x)
  · have y := Int32.le_iff_toInt_le.mp (show (105 : Int32) ≤ a from y)
    have c2 := Int32.le_iff_toInt_le.mp c.2
    rw [show (105 : Int32).toInt = 105 from by decide] at y
    rw [show (104 : Int32).toInt = 104 from by decide] at c2
    omega
  · have x : ¬ a < 97 := x
    have y : ¬ (105 : Int32) ≤ a := y
    have c : (97 : Int32) ≤ a ∧ a ≤ 104 := by
      refine ⟨Int32.not_lt.mp x, Int32.le_iff_toInt_le.mpr ?_⟩
      have y : ¬ (105 : Int32).toInt ≤ a.toInt := fun q => y (Int32.le_iff_toInt_le.mpr q)
      rw [show (105 : Int32).toInt = 105 from by decide] at y
      rw [show (104 : Int32).toInt = 104 from by decide]
      omega
    rw [if_pos c] at h
    exact h
theorem hre_letterM {t : XT} {B : Nat → Int32} {p z K : Nat} {v : Int32} {Q : Int32 → XT → Prop} (hz : t.1 0 = nI z) (hz160 : z ≤ 160) (hp : p < 2 ^ 30) (hK : 4 ≤ K) (h : Q (if (97 : Int32) ≤ (if p < z then t.2.2.1 0 p &&& 255 else -1) ∧ (if p < z then t.2.2.1 0 p &&& 255 else -1) ≤ 104 then 1 else 0) (hq_st t B p v)) : wqX12_isLetter K (hq_st t B p v) Q := by
  obtain ⟨K, rfl⟩ : ∃ K', K = K' + 1 := ⟨K - 1, by omega⟩
  show wbX12_isLetter_0 (wpX12_isLetter K) K (hq_st t B p v) (fun _ => 0) (fun _ => 0) Q
  refine hre_byte hz hz160 hp (by omega) (hm_in (by omega) ⟨?_, h⟩)
  by_cases c : (97 : Int32) ≤ (if p < z then t.2.2.1 0 p &&& 255 else -1) ∧ (if p < z then t.2.2.1 0 p &&& 255 else -1) ≤ 104
  · rw [if_pos c]; exact Or.inr rfl
  · rw [if_neg c]; exact Or.inl rfl
