/-! ===== reference, pure: reading a text: byteNow, blanks, fails, isRight, isLetter, takesSets, toldMany, readsFacet ===== -/
def hq_st (t : XT) (B : Nat → Int32) (p : Nat) (v : Int32) : XT := sI (sI (sA t 1 B) 1 (nI p)) 2 v
theorem hq_st_p (t : XT) (B : Nat → Int32) (p p' : Nat) (v : Int32) : sI (hq_st t B p v) 1 (nI p') = hq_st t B p' v := by
  unfold hq_st sI sA uI
  refine Prod.ext ?_ rfl
  funext j
  show cond (Nat.beq j 1) (nI p') (cond (Nat.beq j 2) v (cond (Nat.beq j 1) (nI p) (t.1 j))) = cond (Nat.beq j 2) v (cond (Nat.beq j 1) (nI p') (t.1 j))
  cases h1 : Nat.beq j 1 with
  | false => cases Nat.beq j 2 <;> rfl
  | true => rw [Nat.eq_of_beq_eq_true h1]; rfl
theorem hq_st_v (t : XT) (B : Nat → Int32) (p : Nat) (v v' : Int32) : sI (hq_st t B p v) 2 v' = hq_st t B p v' := by
  unfold hq_st sI sA uI
  refine Prod.ext ?_ rfl
  funext j
  show cond (Nat.beq j 2) v' (cond (Nat.beq j 2) v (cond (Nat.beq j 1) (nI p) (t.1 j))) = cond (Nat.beq j 2) v' (cond (Nat.beq j 1) (nI p) (t.1 j))
  cases Nat.beq j 2 <;> rfl
theorem hq_st_B (t : XT) (B B' : Nat → Int32) (p : Nat) (v : Int32) : sA (hq_st t B p v) 1 B' = hq_st t B' p v := by
  unfold hq_st sI sA uI
  refine Prod.ext rfl (Prod.ext rfl (Prod.ext ?_ rfl))
  funext j
  show cond (Nat.beq j 1) B' (cond (Nat.beq j 1) B (t.2.2.1 j)) = cond (Nat.beq j 1) B' (t.2.2.1 j)
  cases Nat.beq j 1 <;> rfl
theorem hq_byteNow {t : XT} {B : Nat → Int32} {p z K : Nat} {v : Int32} {Q : Int32 → XT → Prop} (hz : t.1 0 = nI z) (hz160 : z ≤ 160) (hp : p ≤ z) (hK : 1 ≤ K) (h1 : p < z → ∀ b, b < 256 → Q (nI b) (hq_st t B p v)) (h0 : Q (-1) (hq_st t B p v)) : wqX12_byteNow K (hq_st t B p v) Q := by
  obtain ⟨K, rfl⟩ : ∃ K', K = K' + 1 := ⟨K - 1, by omega⟩
  show wbX12_byteNow_0 (wpX12_byteNow K) K (hq_st t B p v) (fun _ => 0) (fun _ => 0) Q
  refine ⟨fun _ => h0, fun x => ?_⟩
  have lt : p < z := by
    refine Nat.lt_of_not_le (fun y => x ?_)
    show t.1 0 ≤ nI p
    rw [hz]; exact nI_le (by omega) (by omega)
  refine ⟨vp_in_nI (n := p) (by omega) (by decide), fun v2 _ v3 e3 => ?_⟩
  obtain ⟨b, hb, e⟩ := pk_andE v2 (m := 255) 8 (by decide)
  rw [e3, e]
  exact h1 lt b hb
theorem hq_blanks_go {t : XT} {B : Nat → Int32} {z : Nat} {v : Int32} {li : Nat → Int32} {lj : Nat → Int64} {Q : XT → Prop} (hz : t.1 0 = nI z) (hz160 : z ≤ 160) :
    ∀ (d p K : Nat), p + d = z → d + 3 ≤ K → (∀ p', p ≤ p' → p' ≤ z → Q (hq_st t B p' v)) → wpX12_blanks K 0 (hq_st t B p v) li lj Q := by
  intro d
  induction d with
  | zero =>
    intro p K hd hK hQ
    obtain ⟨K, rfl⟩ : ∃ K', K = K' + 1 := ⟨K - 1, by omega⟩
    show wbX12_blanks_0 (wpX12_blanks K) K (hq_st t B p v) li lj Q
    exact hq_byteNow hz hz160 (by omega) (by omega) (fun lt => absurd lt (by omega)) ⟨fun _ => hQ p (Nat.le_refl _) (by omega), fun x => absurd x (by decide)⟩
  | succ d ih =>
    intro p K hd hK hQ
    obtain ⟨K, rfl⟩ : ∃ K', K = K' + 1 := ⟨K - 1, by omega⟩
    show wbX12_blanks_0 (wpX12_blanks K) K (hq_st t B p v) li lj Q
    refine hq_byteNow hz hz160 (by omega) (by omega) (fun lt b hb => ⟨fun _ => hQ p (Nat.le_refl _) (by omega), fun _ v3 e3 t4 e4 => ?_⟩) ⟨fun _ => hQ p (Nat.le_refl _) (by omega), fun x => absurd x (by decide)⟩
    have e3 : v3 = nI (p + 1) := e3.trans (nI_1 p)
    rw [e4, e3, hq_st_p]
    exact ih (p + 1) K (by omega) (by omega) (fun p' a b => hQ p' (by omega) b)
theorem hq_blanks {t : XT} {B : Nat → Int32} {p z K : Nat} {v : Int32} {Q : XT → Prop} (hz : t.1 0 = nI z) (hz160 : z ≤ 160) (hp : p ≤ z) (hK : 200 ≤ K) (hQ : ∀ p', p ≤ p' → p' ≤ z → Q (hq_st t B p' v)) : wqX12_blanks K (hq_st t B p v) Q :=
  hq_blanks_go hz hz160 (z - p) p K (by omega) (by omega) hQ
theorem hq_8 : ∀ n, n < 161 → (8 : Int32) * nI n = nI (8 * n) := by decide +kernel
theorem hq_fails {t : XT} {B : Nat → Int32} {p place kind K : Nat} {v : Int32} {Q : XT → Prop} (hpl : place ≤ 160) (hk : kind ≤ 5) (hK : 1 ≤ K) (h : ∀ v', v' ≠ -1 → Q (hq_st t B p v')) : wqX12_fails K (hq_st t B p v) (nI kind) (nI place) Q := by
  obtain ⟨K, rfl⟩ : ∃ K', K = K' + 1 := ⟨K - 1, by omega⟩
  show wbX12_fails_0 (wpX12_fails K) K (hq_st t B p v) (uI (uI (fun _ => 0) 1 (nI kind)) 2 (nI place)) (fun _ => 0) Q
  refine ⟨fun x => h v x, fun _ v2 e2 v3 e3 t4 e4 => ?_⟩
  have e3 : v3 = nI (8 * place + kind) := by
    rw [e3, e2]
    show (8 : Int32) * nI place + nI kind = _
    rw [hq_8 place (by omega)]; exact nI_add _ _
  rw [e4, e3, hq_st_v]
  exact h _ (hs_nI_neg (by omega))
theorem hq_isRight {t : XT} {B : Nat → Int32} {p K : Nat} {v : Int32} {Q : Int32 → XT → Prop} (hK : 1 ≤ K) (h1 : v = -1 → Q 1 (hq_st t B p v)) (h0 : v ≠ -1 → Q 0 (hq_st t B p v)) : wqX12_isRight K (hq_st t B p v) Q := by
  obtain ⟨K, rfl⟩ : ∃ K', K = K' + 1 := ⟨K - 1, by omega⟩
  exact ⟨fun x => h0 x, fun x => h1 x⟩
theorem hq_isLetter {t : XT} {B : Nat → Int32} {p z K : Nat} {v : Int32} {Q : Int32 → XT → Prop} (hz : t.1 0 = nI z) (hz160 : z ≤ 160) (hp : p ≤ z) (hK : 4 ≤ K) (h1 : p < z → Q 1 (hq_st t B p v)) (h0 : Q 0 (hq_st t B p v)) : wqX12_isLetter K (hq_st t B p v) Q := by
  obtain ⟨K, rfl⟩ : ∃ K', K = K' + 1 := ⟨K - 1, by omega⟩
  show wbX12_isLetter_0 (wpX12_isLetter K) K (hq_st t B p v) (fun _ => 0) (fun _ => 0) Q
  refine hq_byteNow hz hz160 hp (by omega) (fun lt b hb => hm_in (by omega) ?_) (hm_in (by omega) ?_)
  · by_cases c : (97 : Int32) ≤ nI b ∧ nI b ≤ 104
    · rw [if_pos c]; exact ⟨Or.inr rfl, h1 lt⟩
    · rw [if_neg c]; exact ⟨Or.inl rfl, h0⟩
  · rw [if_neg (show ¬ ((97 : Int32) ≤ -1 ∧ (-1 : Int32) ≤ 104) by decide)]
    exact ⟨Or.inl rfl, h0⟩
theorem hq_and (a b : Nat) : nI a &&& nI b = nI (a &&& b) := by
  refine Int32.toBitVec_inj.mp (BitVec.eq_of_toNat_eq ?_)
  show (BitVec.ofNat 32 a &&& BitVec.ofNat 32 b).toNat = (BitVec.ofNat 32 (a &&& b)).toNat
  rw [BitVec.toNat_and, BitVec.toNat_ofNat, BitVec.toNat_ofNat, BitVec.toNat_ofNat, Nat.and_mod_two_pow]
/-- with a set all its parts are told -/
def hq_cl (B : Nat → Int32) : Prop := ∀ a b, a < 256 → 0 < b → b &&& a = b → B a ≠ 0 → B b ≠ 0
def hq_N (B : Nat → Int32) (n : Nat) : Nat := hm_sum (fun a => if B (a + 1) = 0 then 0 else 1) n
theorem hq_N_le {B : Nat → Int32} : ∀ n, hq_N B n ≤ n := by
  intro n
  induction n with
  | zero => exact Nat.le_refl _
  | succ n ih =>
    show hq_N B n + (if B (n + 1) = 0 then 0 else 1) ≤ n + 1
    by_cases x : B (n + 1) = 0
    · rw [if_pos x]; omega
    · rw [if_neg x]; omega
theorem hq_takes_go2 {t : XT} {p : Nat} {v X : Int32} {lj : Nat → Int64} {B : Nat → Int32} {Q : XT → Prop} (hQ : ∀ B', (∀ a, a < 256 → (B' a ≠ 0 ↔ (B a ≠ 0 ∨ (0 < a ∧ nI a &&& (X ^^^ (-1)) = 0)))) → Q (hq_st t B' p v)) :
    ∀ (d i K : Nat) (li C : Nat → Int32), i + d = 256 → 0 < i → 2 * d + 2 ≤ K → li 1 = X → li 2 = nI i → (∀ a, a < 256 → (C a ≠ 0 ↔ (B a ≠ 0 ∨ (0 < a ∧ a < i ∧ nI a &&& (X ^^^ (-1)) = 0)))) → wpX12_takesSets K 1 (hq_st t C p v) li lj Q := by
  intro d
  induction d with
  | zero =>
    intro i K li C hd hi hK e1 e2 hC
    obtain ⟨K, rfl⟩ : ∃ K', K = K' + 1 := ⟨K - 1, by omega⟩
    show wbX12_takesSets_1 (wpX12_takesSets K) K (hq_st t C p v) li lj Q
    refine ⟨fun _ => hQ C (fun a ha => ⟨fun z => ((hC a ha).mp z).elim Or.inl (fun w => Or.inr ⟨w.1, w.2.2⟩), fun z => (hC a ha).mpr (z.elim Or.inl (fun w => Or.inr ⟨w.1, by omega, w.2⟩))⟩), fun x => absurd (show nI 256 ≤ li 2 by rw [e2]; exact nI_le (by omega) (by omega)) x⟩
  | succ d ih =>
    intro i K li C hd hi hK e1 e2 hC
    obtain ⟨K, rfl⟩ : ∃ K', K = K' + 2 := ⟨K - 2, by omega⟩
    have ci : (nI i).toNatClampNeg = i := nI_clamp (by omega)
    have nx : ∀ C' : Nat → Int32, (∀ a, a < 256 → (C' a ≠ 0 ↔ (B a ≠ 0 ∨ (0 < a ∧ a < i + 1 ∧ nI a &&& (X ^^^ (-1)) = 0)))) → wpX12_takesSets (K + 1) 2 (hq_st t C' p v) li lj Q := by
      intro C' hC'
      show wbX12_takesSets_2 (wpX12_takesSets K) K (hq_st t C' p v) li lj Q
      intro v6 e6
      exact ih (i + 1) K _ C' (by omega) (by omega) (by omega) e1 (by show v6 = _; rw [e6, e2]; exact hs_inc i) hC'
    show wbX12_takesSets_1 (wpX12_takesSets (K + 1)) (K + 1) (hq_st t C p v) li lj Q
    unfold wbX12_takesSets_1
    rw [e1, e2]
    refine ⟨fun x => absurd (show nI 256 ≤ nI i from x) (nI_ge (by omega) (by omega)), fun _ v2 f2 v3 f3 => ?_⟩
    rw [f2] at f3
    refine ⟨fun y => nx C (fun a ha => ?_), fun y => ⟨vp_in_nI (by omega) (by decide), fun t5 e5 => ?_⟩⟩
    · refine ⟨fun z => ((hC a ha).mp z).elim Or.inl (fun w => Or.inr ⟨w.1, by omega, w.2.2⟩), fun z => (hC a ha).mpr (z.elim Or.inl (fun w => Or.inr ⟨w.1, ?_, w.2.2⟩))⟩
      refine Nat.lt_of_le_of_ne (by omega) (fun q => y ?_)
      rw [f3, ← q]; exact w.2.2
    · rw [ci, hq_st_B] at e5
      have e5 : t5 = hq_st t (upd C i 1) p v := e5
      rw [e5]
      refine nx _ (fun a ha => ?_)
      by_cases x : a = i
      · refine ⟨fun _ => Or.inr ⟨by omega, by omega, by rw [x]; exact f3.symm.trans y⟩, fun _ => ?_⟩
        rw [show upd C i 1 a = 1 from if_pos x]; decide
      · rw [show upd C i 1 a = C a from if_neg x]
        exact ⟨fun z => ((hC a ha).mp z).elim Or.inl (fun w => Or.inr ⟨w.1, by omega, w.2.2⟩), fun z => (hC a ha).mpr (z.elim Or.inl (fun w => Or.inr ⟨w.1, by omega, w.2.2⟩))⟩
theorem hq_takesSets {t : XT} {B : Nat → Int32} {p K : Nat} {v X : Int32} {Q : XT → Prop} (hB : hq_cl B) (hK : 600 ≤ K) (hQ : ∀ B', hq_cl B' → Q (hq_st t B' p v)) : wqX12_takesSets K (hq_st t B p v) X Q := by
  obtain ⟨K, rfl⟩ : ∃ K', K = K' + 2 := ⟨K - 2, by omega⟩
  show wbX12_takesSets_0 (wpX12_takesSets (K + 1)) (K + 1) (hq_st t B p v) (uI (fun _ => 0) 1 X) (fun _ => 0) Q
  refine hq_takes_go2 (B := B) (X := X) (fun B' hB' => hQ B' (fun a b ha hb hab h => ?_)) 255 1 (K + 1) _ B (by omega) (by omega) (by omega) rfl rfl (fun a ha => ⟨Or.inl, fun z => z.elim id (fun w => absurd w.2.1 (by omega))⟩)
  have le : b ≤ a := by rw [← hab]; exact Nat.and_le_right
  refine (hB' b (by omega)).mpr ?_
  rcases (hB' a ha).mp h with z | ⟨z1, z2⟩
  · exact Or.inl (hB a b ha hb hab z)
  · refine Or.inr ⟨hb, ?_⟩
    rw [← hab, ← hq_and, Int32.and_assoc, z2]
    exact Int32.and_zero
theorem hq_told_go {t : XT} {lj : Nat → Int64} {Q : Int32 → XT → Prop} (hQ : Q (nI (hq_N (t.2.2.1 1) 255)) t) :
    ∀ (d i K : Nat) (li : Nat → Int32), i + d = 255 → d + 3 ≤ K → li 1 = nI (hq_N (t.2.2.1 1) i) → li 2 = nI (i + 1) → wpX12_toldMany K 1 t li lj Q := by
  intro d
  induction d with
  | zero =>
    intro i K li hd hK e1 e2
    obtain ⟨K, rfl⟩ : ∃ K', K = K' + 1 := ⟨K - 1, by omega⟩
    obtain rfl : i = 255 := by omega
    show wbX12_toldMany_1 (wpX12_toldMany K) K t li lj Q
    refine ⟨fun _ => by rw [e1]; exact hQ, fun x => absurd (show nI 256 ≤ li 2 by rw [e2]; exact nI_le (by omega) (by omega)) x⟩
  | succ d ih =>
    intro i K li hd hK e1 e2
    obtain ⟨K, rfl⟩ : ∃ K', K = K' + 1 := ⟨K - 1, by omega⟩
    have ci : (nI (i + 1)).toNatClampNeg = i + 1 := nI_clamp (by omega)
    show wbX12_toldMany_1 (wpX12_toldMany K) K t li lj Q
    unfold wbX12_toldMany_1
    rw [e1, e2]
    refine ⟨fun x => absurd (show nI 256 ≤ nI (i + 1) from x) (nI_ge (by omega) (by omega)), fun _ => ⟨vp_in_nI (by omega) (by decide), fun v2 f2 => hm_truth (by omega) (fun v4 f4 v5 f5 => ?_)⟩⟩
    rw [ci] at f2
    refine ih (i + 1) K _ (by omega) (by omega) ?_ (f5.trans (hs_inc (i + 1)))
    show v4 = nI (hq_N (t.2.2.1 1) i + (if t.2.2.1 1 (i + 1) = 0 then 0 else 1))
    rw [f4, f2]
    by_cases x : t.2.2.1 1 (i + 1) = 0
    · rw [if_pos x, if_pos x]; exact Int32.add_zero _
    · rw [if_neg x, if_neg x]; exact nI_1 _
theorem hq_toldMany {t : XT} {K : Nat} {Q : Int32 → XT → Prop} (hK : 300 ≤ K) (hQ : Q (nI (hq_N (t.2.2.1 1) 255)) t) : wqX12_toldMany K t Q := by
  obtain ⟨K, rfl⟩ : ∃ K', K = K' + 2 := ⟨K - 2, by omega⟩
  show wbX12_toldMany_0 (wpX12_toldMany (K + 1)) (K + 1) t (fun _ => 0) (fun _ => 0) Q
  exact hq_told_go hQ 255 0 (K + 1) _ (by omega) (by omega) rfl rfl
theorem hq_readsFacet {t : XT} {B : Nat → Int32} {p z K : Nat} {v a : Int32} {Q : XT → Prop} (hz : t.1 0 = nI z) (hz160 : z ≤ 160) (hp : p ≤ z) (hB : hq_cl B) (hK : 5000 ≤ K)
    (hQ : ∀ B' p' v', p ≤ p' → p' ≤ z → hq_cl B' → (v' = -1 → hq_N B' 255 ≤ 60) → Q (hq_st t B' p' v')) : wqX12_readsFacet K (hq_st t B p v) a Q := by
  obtain ⟨K, rfl⟩ : ∃ K', K = K' + 1 := ⟨K - 1, by omega⟩
  -- the end
  have six : ∀ (K2 p2 : Nat) (B2 : Nat → Int32) (v2 : Int32) (li : Nat → Int32), 250 ≤ K2 → p ≤ p2 → p2 ≤ z → hq_cl B2 → (v2 = -1 → hq_N B2 255 ≤ 60) → wpX12_readsFacet K2 6 (hq_st t B2 p2 v2) li (fun _ => 0) Q := by
    intro K2 p2 B2 v2 li h1 h2 h3 h4 h5
    obtain ⟨K2, rfl⟩ : ∃ K', K2 = K' + 1 := ⟨K2 - 1, by omega⟩
    show wbX12_readsFacet_6 (wpX12_readsFacet K2) K2 (hq_st t B2 p2 v2) li (fun _ => 0) Q
    exact hq_blanks hz hz160 h3 (by omega) (fun p' a b => hQ B2 p' v2 (by omega) b h4 h5)
  have five : ∀ (K2 p2 b2 : Nat) (v2 : Int32) (li : Nat → Int32), 1000 ≤ K2 → p ≤ p2 → p2 ≤ z → b2 ≤ z → li 2 = nI b2 → wpX12_readsFacet K2 5 (hq_st t B p2 v2) li (fun _ => 0) Q := by
    intro K2 p2 b2 v2 li h1 h2 h3 h4 e2
    obtain ⟨K2, rfl⟩ : ∃ K', K2 = K' + 1 := ⟨K2 - 1, by omega⟩
    show wbX12_readsFacet_5 (wpX12_readsFacet K2) K2 (hq_st t B p2 v2) li (fun _ => 0) Q
    refine hq_isRight (by omega) (fun _ => ⟨fun x => absurd x (by decide), fun _ => ?_⟩) (fun nr => ⟨fun _ => six K2 p2 B v2 li (by omega) h2 h3 hB (fun q => absurd q nr), fun x => absurd rfl x⟩)
    refine hq_takesSets hB (by omega) (fun B' hB' => hq_toldMany (by omega) ?_)
    have n255 := hq_N_le (B := B') 255
    refine ⟨fun y => six K2 p2 B' v2 li (by omega) h2 h3 hB' (fun _ => ?_), fun _ => ?_⟩
    · have y : nI (hq_N B' 255) ≤ nI 60 := y
      have y := Int32.le_iff_toInt_le.mp y
      rw [nI_toInt (by omega), nI_toInt (by omega)] at y
      omega
    · rw [e2]
      exact hq_fails (kind := 5) (by omega) (by omega) (by omega) (fun v' nv => six K2 p2 B' v' li (by omega) h2 h3 hB' (fun q => absurd q nv))
  have two : ∀ (d p2 b2 K2 : Nat) (v2 : Int32) (li : Nat → Int32), p2 + d = z → p ≤ p2 → b2 ≤ z → 4 * d + 1100 ≤ K2 → li 2 = nI b2 → wpX12_readsFacet K2 2 (hq_st t B p2 v2) li (fun _ => 0) Q := by
    intro d
    induction d with
    | zero =>
      intro p2 b2 K2 v2 li hd hp2 hb2 hK2 e2
      obtain ⟨K2, rfl⟩ : ∃ K', K2 = K' + 1 := ⟨K2 - 1, by omega⟩
      show wbX12_readsFacet_2 (wpX12_readsFacet K2) K2 (hq_st t B p2 v2) li (fun _ => 0) Q
      have f5 := five K2 p2 b2 v2 li (by omega) hp2 (by omega) hb2 e2
      refine hq_isRight (by omega) (fun _ => ⟨fun x => absurd x (by decide), fun _ => ?_⟩) (fun _ => ⟨fun _ => f5, fun x => absurd rfl x⟩)
      exact hq_isLetter hz hz160 (by omega) (by omega) (fun lt => absurd lt (by omega)) ⟨fun _ => f5, fun x => absurd rfl x⟩
    | succ d ih =>
      intro p2 b2 K2 v2 li hd hp2 hb2 hK2 e2
      obtain ⟨K2, rfl⟩ : ∃ K', K2 = K' + 3 := ⟨K2 - 3, by omega⟩
      have f5 := five (K2 + 2) p2 b2 v2 li (by omega) hp2 (by omega) hb2 e2
      have four : ∀ (v3 : Int32) (li' : Nat → Int32), li' 2 = nI b2 → wpX12_readsFacet (K2 + 1) 4 (hq_st t B p2 v3) li' (fun _ => 0) Q := by
        intro v3 li' a2
        show wbX12_readsFacet_4 (wpX12_readsFacet K2) K2 (hq_st t B p2 v3) li' (fun _ => 0) Q
        intro v20 _ v21 e21 t22 e22
        have e21 : v21 = nI (p2 + 1) := e21.trans (nI_1 p2)
        rw [e22, e21, hq_st_p]
        exact ih (p2 + 1) b2 K2 v3 _ (by omega) (by omega) hb2 (by omega) a2
      have three : ∀ (v3 : Int32) (li' : Nat → Int32), li' 2 = nI b2 → wpX12_readsFacet (K2 + 2) 3 (hq_st t B p2 v3) li' (fun _ => 0) Q := by
        intro v3 li' a2
        show wbX12_readsFacet_3 (wpX12_readsFacet (K2 + 1)) (K2 + 1) (hq_st t B p2 v3) li' (fun _ => 0) Q
        exact hm_bitCount (by omega) ⟨fun _ => four v3 li' a2, fun _ => hq_fails (kind := 3) (place := p2) (by omega) (by omega) (by omega) (fun v' _ => four v' li' a2)⟩
      show wbX12_readsFacet_2 (wpX12_readsFacet (K2 + 2)) (K2 + 2) (hq_st t B p2 v2) li (fun _ => 0) Q
      refine hq_isRight (by omega) (fun _ => ⟨fun x => absurd x (by decide), fun _ => ?_⟩) (fun _ => ⟨fun _ => f5, fun x => absurd rfl x⟩)
      refine hq_isLetter hz hz160 (by omega) (by omega) (fun lt => ⟨fun x => absurd x (by decide), fun _ => ?_⟩) ⟨fun _ => f5, fun x => absurd rfl x⟩
      have rest : ∀ r : Int32, ∀ v12 : Int32, v12 = r - 97 → ∀ v13 : Int32, v13 = (1 <<< (v12 &&& 31)) → ∀ v14 : Int32, v14 = ((li 3) &&& v13) → ((v14 = 0) → wpX12_readsFacet (K2 + 2) 3 (hq_st t B p2 v2) (uI li 4 v13) (fun _ => 0) Q) ∧ (¬ (v14 = 0) → (wqX12_fails (K2 + 2) (hq_st t B p2 v2) 2 ((hq_st t B p2 v2).1 1) (fun t_16 => wpX12_readsFacet (K2 + 2) 3 t_16 (uI li 4 v13) (fun _ => 0) Q))) := by
        intro r v12 _ v13 _ v14 _
        exact ⟨fun _ => three v2 _ e2, fun _ => hq_fails (kind := 2) (place := p2) (by omega) (by omega) (by omega) (fun v' _ => three v' _ e2)⟩
      exact hq_byteNow hz hz160 (by omega) (by omega) (fun _ b _ => rest (nI b)) (rest (-1))
  show wbX12_readsFacet_0 (wpX12_readsFacet K) K (hq_st t B p v) (uI (fun _ => 0) 1 a) (fun _ => 0) Q
  refine hq_blanks hz hz160 hp (by omega) (fun p1 h1 h2 => ?_)
  have one : ∀ (v1 : Int32) (li : Nat → Int32), li 2 = nI p1 → wpX12_readsFacet K 1 (hq_st t B p1 v1) li (fun _ => 0) Q := by
    intro v1 li e2
    obtain ⟨K, rfl⟩ : ∃ K', K = K' + 1 := ⟨K - 1, by omega⟩
    show wbX12_readsFacet_1 (wpX12_readsFacet K) K (hq_st t B p1 v1) li (fun _ => 0) Q
    refine ⟨fun _ => two (z - p1) p1 p1 K v1 li (by omega) h1 h2 (by omega) e2, fun _ => ?_⟩
    exact hq_fails (kind := 4) (place := p1) (by omega) (by omega) (by omega) (fun v' _ => two (z - p1) p1 p1 K v' li (by omega) h1 h2 (by omega) e2)
  refine hq_isLetter hz hz160 h2 (by omega) (fun _ => ⟨fun _ => one v _ rfl, fun x => absurd x (by decide)⟩) ⟨fun x => absurd rfl x, fun _ => ?_⟩
  exact hq_fails (kind := 1) (place := p1) (by omega) (by omega) (by omega) (fun v' _ => one v' _ rfl)
