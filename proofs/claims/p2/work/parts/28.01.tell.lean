/-! ===== reading, exactly: what the class tells ===== -/
def hx_st (t : XT) (B : Nat → Int32) (c p : Nat) : XT := sI (sI (sA t 1 B) 2 (nI c)) 3 (nI p)
theorem hxs_p (t : XT) (B : Nat → Int32) (c p p' : Nat) : sI (hx_st t B c p) 3 (nI p') = hx_st t B c p' := hre_sI3 _ _ _
theorem hxs_c (t : XT) (B : Nat → Int32) (c c' p : Nat) : sI (hx_st t B c p) 2 (nI c') = hx_st t B c' p := by
  unfold hx_st sI sA uI
  refine Prod.ext ?_ rfl
  funext j
  show cond (Nat.beq j 2) (nI c') (cond (Nat.beq j 3) (nI p) (cond (Nat.beq j 2) (nI c) (t.1 j))) = cond (Nat.beq j 3) (nI p) (cond (Nat.beq j 2) (nI c') (t.1 j))
  cases h : Nat.beq j 2 with
  | false => cases Nat.beq j 3 <;> rfl
  | true => rw [Nat.eq_of_beq_eq_true h]; rfl
theorem hxs_B (t : XT) (B B' : Nat → Int32) (c p : Nat) : sA (hx_st t B c p) 1 B' = hx_st t B' c p := by
  unfold hx_st sI sA uI
  refine Prod.ext rfl (Prod.ext rfl (Prod.ext ?_ rfl))
  funext j
  show cond (Nat.beq j 1) B' (cond (Nat.beq j 1) B (t.2.2.1 j)) = cond (Nat.beq j 1) B' (t.2.2.1 j)
  cases Nat.beq j 1 <;> rfl
theorem hre_sub {a s : Nat} (ha : a < 256) (hs : s < 256) (h : nI a &&& (nI s ^^^ (-1)) = 0) : a ≤ s := by
  have e : nI a &&& nI s = nI a := by
    have h' : nI a &&& (nI s ^^^ (-1)) ||| (nI a &&& nI s) = nI a &&& nI s := by rw [h]; exact Int32.zero_or
    rw [← h']
    apply Int32.toBitVec_inj.mp
    rw [Int32.toBitVec_or, Int32.toBitVec_and, Int32.toBitVec_and, Int32.toBitVec_xor, show (-1 : Int32).toBitVec = BitVec.allOnes 32 from by decide]
    apply BitVec.eq_of_getLsbD_eq
    intro i hi
    rw [BitVec.getLsbD_or, BitVec.getLsbD_and, BitVec.getLsbD_and, BitVec.getLsbD_xor, BitVec.getLsbD_allOnes, decide_eq_true hi]
    cases (nI a).toBitVec.getLsbD i <;> cases (nI s).toBitVec.getLsbD i <;> rfl
  rw [hq_and] at e
  have l := @Nat.and_le_right a s
  have q := (nI_eq (by omega) (by omega)).mp e
  omega
theorem hre_N_upd {B : Nat → Int32} {i : Nat} (hB : B i = 0) : ∀ n, hq_N (upd B i 1) n = hq_N B n + (if 0 < i ∧ i ≤ n then 1 else 0) := by
  intro n
  induction n with
  | zero => rw [if_neg (by omega)]; rfl
  | succ n ih =>
    show hq_N (upd B i 1) n + (if upd B i 1 (n + 1) = 0 then 0 else 1) = hq_N B n + (if B (n + 1) = 0 then 0 else 1) + (if 0 < i ∧ i ≤ n + 1 then 1 else 0)
    rw [ih]
    by_cases c : n + 1 = i
    · rw [show upd B i 1 (n + 1) = 1 from if_pos c, if_neg (show ¬ (1 : Int32) = 0 by decide), c, if_pos hB, if_neg (by omega), if_pos (by omega)]
    · rw [show upd B i 1 (n + 1) = B (n + 1) from if_neg c]
      by_cases d : 0 < i ∧ i ≤ n
      · rw [if_pos d, if_pos (show 0 < i ∧ i ≤ n + 1 by omega)]; omega
      · rw [if_neg d, if_neg (show ¬ (0 < i ∧ i ≤ n + 1) by omega)]; omega
theorem hre_tell_go {t : XT} {p s : Nat} {lj : Nat → Int64} {B : Nat → Int32} {Q : XT → Prop} (hs : s < 256) (hQ : ∀ B', (∀ a, a < 256 → (B' a ≠ 0 ↔ (B a ≠ 0 ∨ (0 < a ∧ nI a &&& (nI s ^^^ (-1)) = 0)))) → Q (hx_st t B' (hq_N B' 255) p)) :
    ∀ (d i K : Nat) (li C : Nat → Int32), i + d = 256 → 0 < i → 2 * d + 5 ≤ K → li 1 = nI s → li 2 = nI i → (∀ a, a < 256 → (C a ≠ 0 ↔ (B a ≠ 0 ∨ (0 < a ∧ a < i ∧ nI a &&& (nI s ^^^ (-1)) = 0)))) → wpX8_tell K 1 (hx_st t C (hq_N C 255) p) li lj Q := by
  intro d
  induction d with
  | zero =>
    intro i K li C hd hi hK e1 e2 hC
    obtain ⟨K, rfl⟩ : ∃ K', K = K' + 1 := ⟨K - 1, by omega⟩
    obtain rfl : i = 256 := by omega
    have out : Q (hx_st t C (hq_N C 255) p) := hQ C (fun a ha => ⟨fun z => ((hC a ha).mp z).elim Or.inl (fun w => Or.inr ⟨w.1, w.2.2⟩), fun z => (hC a ha).mpr (z.elim Or.inl (fun w => Or.inr ⟨w.1, ha, w.2⟩))⟩)
    show wbX8_tell_1 (wpX8_tell K) K (hx_st t C (hq_N C 255) p) li lj Q
    exact ⟨fun _ => out, fun _ => ⟨fun _ => out, fun x => absurd (show nI 256 ≤ li 2 by rw [e2]; exact nI_le (by omega) (by omega)) x⟩⟩
  | succ d ih =>
    intro i K li C hd hi hK e1 e2 hC
    obtain ⟨K, rfl⟩ : ∃ K', K = K' + 2 := ⟨K - 2, by omega⟩
    have ci : (nI i).toNatClampNeg = i := nI_clamp (by omega)
    have nx : ∀ C' : Nat → Int32, (∀ a, a < 256 → (C' a ≠ 0 ↔ (B a ≠ 0 ∨ (0 < a ∧ a < i + 1 ∧ nI a &&& (nI s ^^^ (-1)) = 0)))) → wpX8_tell (K + 1) 2 (hx_st t C' (hq_N C' 255) p) li lj Q := by
      intro C' hC'
      show wbX8_tell_2 (wpX8_tell K) K (hx_st t C' (hq_N C' 255) p) li lj Q
      intro v6 e6
      exact ih (i + 1) K _ C' (by omega) (by omega) (by omega) e1 (by show v6 = _; rw [e6, e2]; exact hs_inc i) hC'
    have same : (C i ≠ 0 ∨ ¬ nI i &&& (nI s ^^^ (-1)) = 0) → ∀ a, a < 256 → (C a ≠ 0 ↔ (B a ≠ 0 ∨ (0 < a ∧ a < i + 1 ∧ nI a &&& (nI s ^^^ (-1)) = 0))) := by
      intro y a ha
      refine ⟨fun z => ((hC a ha).mp z).elim Or.inl (fun w => Or.inr ⟨w.1, by omega, w.2.2⟩), fun z => ?_⟩
      by_cases x : a = i
      · rcases y with y | y
        · rw [x]; exact y
        · rw [x] at z ⊢
          exact z.elim (fun b => (hC i (by omega)).mpr (Or.inl b)) (fun w => absurd w.2.2 y)
      · exact (hC a ha).mpr (z.elim Or.inl (fun w => Or.inr ⟨w.1, by omega, w.2.2⟩))
    show wbX8_tell_1 (wpX8_tell (K + 1)) (K + 1) (hx_st t C (hq_N C 255) p) li lj Q
    unfold wbX8_tell_1
    rw [e1, e2]
    refine ⟨fun x => ?_, fun _ => ⟨fun x => absurd (show nI 256 ≤ nI i from x) (nI_ge (by omega) (by omega)), fun _ v3 f3 v4 f4 => ⟨fun y => nx C (same (Or.inr ?_)), fun y => ⟨vp_in_nI (by omega) (by decide), fun v6 f6 => ⟨fun y6 => nx C (same (Or.inl ?_)), fun y6 => ⟨vp_in_nI (by omega) (by decide), fun t8 e8 v9 e9 t10 e10 => ?_⟩⟩⟩⟩⟩⟩
    · have lt : s < i := by
        refine Nat.lt_of_not_le (fun q => ?_)
        have x := Int32.lt_iff_toInt_lt.mp x
        rw [nI_toInt (by omega), nI_toInt (by omega)] at x
        omega
      exact hQ C (fun a ha => ⟨fun z => ((hC a ha).mp z).elim Or.inl (fun w => Or.inr ⟨w.1, w.2.2⟩), fun z => (hC a ha).mpr (z.elim Or.inl (fun w => Or.inr ⟨w.1, Nat.lt_of_le_of_lt (hre_sub ha hs w.2) lt, w.2⟩))⟩)
    · rw [f4, f3] at y; exact y
    · rw [f6, ci] at y6; exact y6
    · rw [f6, ci] at y6
      have y6 : C i = 0 := y6
      rw [ci] at e8
      have e8 : t8 = hx_st t (upd C i 1) (hq_N C 255) p := e8.trans (hxs_B t C (upd C i 1) _ p)
      have n1 : hq_N (upd C i 1) 255 = hq_N C 255 + 1 := by rw [hre_N_upd y6, if_pos (by omega)]
      have e9 : v9 = nI (hq_N (upd C i 1) 255) := by rw [e9, e8, n1]; exact nI_1 _
      rw [e10, e9, e8, hxs_c]
      refine nx _ (fun a ha => ?_)
      by_cases x : a = i
      · refine ⟨fun _ => Or.inr ⟨by omega, by omega, by rw [x, ← f3, ← f4]; exact y⟩, fun _ => ?_⟩
        rw [show upd C i 1 a = 1 from if_pos x]; decide
      · rw [show upd C i 1 a = C a from if_neg x]
        exact ⟨fun z => ((hC a ha).mp z).elim Or.inl (fun w => Or.inr ⟨w.1, by omega, w.2.2⟩), fun z => (hC a ha).mpr (z.elim Or.inl (fun w => Or.inr ⟨w.1, by omega, w.2.2⟩))⟩
theorem hre_tell {t : XT} {B : Nat → Int32} {p s K : Nat} {Q : XT → Prop} (hs : s < 256) (hK : 600 ≤ K) (hQ : ∀ B', (∀ a, a < 256 → (B' a ≠ 0 ↔ (B a ≠ 0 ∨ (0 < a ∧ nI a &&& (nI s ^^^ (-1)) = 0)))) → Q (hx_st t B' (hq_N B' 255) p)) : wqX8_tell K (hx_st t B (hq_N B 255) p) (nI s) Q := by
  obtain ⟨K, rfl⟩ : ∃ K', K = K' + 1 := ⟨K - 1, by omega⟩
  show wpX8_tell K 1 (hx_st t B (hq_N B 255) p) (uI (uI (fun _ => 0) 1 (nI s)) 2 1) (fun _ => 0) Q
  exact hre_tell_go hs hQ 255 1 K _ B (by omega) (by omega) (by omega) rfl rfl (fun a ha => ⟨Or.inl, fun z => z.elim id (fun w => absurd w.2.1 (by omega))⟩)
