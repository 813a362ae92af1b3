/-! ===== reading, exactly: a FACET read by the class ===== -/
theorem hre_fault {p k K : Nat} {Q : Int32 → Prop} (hp : p ≤ 160) (hk : k ≤ 5) (hK : 1 ≤ K) (h : Q (nI (8 * p + k))) : wqX8_fault K (nI p) (nI k) Q := by
  obtain ⟨K, rfl⟩ : ∃ K', K = K' + 1 := ⟨K - 1, by omega⟩
  show wbX8_fault_0 (wpX8_fault K) K (uI (uI (fun _ => 0) 0 (nI p)) 1 (nI k)) (fun _ => 0) Q
  intro v1 e1 v2 e2
  have e1 : v1 = nI (8 * p) := e1.trans (hq_8 p (by omega))
  have e2 : v2 = nI (8 * p + k) := by rw [e2, e1]; exact nI_add _ _
  rw [e2]; exact h
theorem hre_bits : ∀ j : Nat, j < 8 → ((1 : Int32) <<< ((nI (97 + j) - 97) &&& 31)) = nI (2 ^ j) := by decide +kernel
theorem hre_bit {a : Int32} (h : (97 : Int32) ≤ a ∧ a ≤ 104) : ∃ j, j < 256 ∧ ((1 : Int32) <<< ((a - 97) &&& 31)) = nI j := by
  have l := Int32.le_iff_toInt_le.mp h.1
  have u := Int32.le_iff_toInt_le.mp h.2
  rw [show (97 : Int32).toInt = 97 from by decide] at l
  rw [show (104 : Int32).toInt = 104 from by decide] at u
  obtain ⟨b, hb, e⟩ := nI_of (x := a) (fun q => by
    have q := Int32.lt_iff_toInt_lt.mp q
    rw [show (0 : Int32).toInt = 0 from by decide] at q
    omega)
  rw [e, nI_toInt (by omega)] at l u
  obtain ⟨j, rfl⟩ : ∃ j, b = 97 + j := ⟨b - 97, by omega⟩
  refine ⟨2 ^ j, ?_, by rw [e]; exact hre_bits j (by omega)⟩
  exact Nat.lt_of_lt_of_le (Nat.pow_lt_pow_right (by decide) (show j < 8 by omega)) (by decide)
theorem hre_or {a b : Nat} (ha : a < 256) (hb : b < 256) : ∃ c, c < 256 ∧ nI a ||| nI b = nI c := by
  refine ⟨a ||| b, Nat.or_lt_two_pow (n := 8) ha hb, ?_⟩
  refine Int32.toBitVec_inj.mp (BitVec.eq_of_toNat_eq ?_)
  show (BitVec.ofNat 32 a ||| BitVec.ofNat 32 b).toNat = (BitVec.ofNat 32 (a ||| b)).toNat
  rw [BitVec.toNat_or, BitVec.toNat_ofNat, BitVec.toNat_ofNat, BitVec.toNat_ofNat, Nat.mod_eq_of_lt (show a < 2 ^ 32 by omega), Nat.mod_eq_of_lt (show b < 2 ^ 32 by omega), Nat.mod_eq_of_lt]
  have := Nat.or_lt_two_pow (n := 8) ha hb
  omega
/-- the letters from p on, d places looked at: the FAULT or 0, the place, the set -/
def hrl (D : Nat → Int32) : Nat → Nat → Int32 → Int32 × Nat × Int32
  | 0, p, s => (0, p, s)
  | d + 1, p, s => if (97 : Int32) ≤ D p ∧ D p ≤ 104 then (if ¬ s &&& ((1 : Int32) <<< ((D p - 97) &&& 31)) = 0 then (nI (8 * p + 2), p, s) else if hm_bc s = 5 then (nI (8 * p + 3), p, s) else hrl D d (p + 1) (s ||| ((1 : Int32) <<< ((D p - 97) &&& 31)))) else (0, p, s)
/-- B' is what is told when set s is told to B -/
def hrt (B B' : Nat → Int32) (s : Int32) : Prop := ∀ a, a < 256 → (B' a ≠ 0 ↔ (B a ≠ 0 ∨ (0 < a ∧ nI a &&& (s ^^^ (-1)) = 0)))
def hro (t : XT) (B : Nat → Int32) (st : Nat) (o : Int32 × Nat × Int32) (Q : Int32 → XT → Prop) : Prop :=
  (o.1 ≠ 0 → ∀ p', Q o.1 (hx_st t B (hq_N B 255) p')) ∧ (o.1 = 0 → ∀ B', hrt B B' o.2.2 → (hq_N B' 255 ≤ 60 → Q 0 (hx_st t B' (hq_N B' 255) o.2.1)) ∧ (¬ hq_N B' 255 ≤ 60 → Q (nI (8 * st + 5)) (hx_st t B' (hq_N B' 255) o.2.1)))
theorem hre_two {t : XT} {B : Nat → Int32} {st p s K : Nat} {li : Nat → Int32} {lj : Nat → Int64} {Q : Int32 → XT → Prop} (hs : s < 256) (hst : st ≤ 160) (hK : 650 ≤ K) (e3 : li 3 = nI st) (e4 : li 4 = nI s) (H : hro t B st (0, p, nI s) Q) : wpX8_readFacet_c1 K 2 (hx_st t B (hq_N B 255) p) li lj Q := by
  obtain ⟨K, rfl⟩ : ∃ K', K = K' + 1 := ⟨K - 1, by omega⟩
  show wbX8_readFacet_c1_2 (wpX8_readFacet_c1 K) K (hx_st t B (hq_N B 255) p) li lj Q
  unfold wbX8_readFacet_c1_2
  rw [e3, e4]
  refine hre_tell hs (by omega) (fun B' hB' => ?_)
  have h := H.2 rfl B' hB'
  have n255 := hq_N_le (B := B') 255
  refine ⟨fun y => h.1 ?_, fun y => hre_fault (k := 5) hst (by omega) (by omega) (h.2 (fun q => y ?_))⟩
  · have y : nI (hq_N B' 255) ≤ nI 60 := y
    have y := Int32.le_iff_toInt_le.mp y
    rw [nI_toInt (by omega), nI_toInt (by omega)] at y
    omega
  · show nI (hq_N B' 255) ≤ nI 60
    exact nI_le q (by omega)
theorem hre_rf_go {t : XT} {B : Nat → Int32} {y st : Nat} {lj : Nat → Int64} {Q : Int32 → XT → Prop} (h1 : t.1 1 = nI y) (hy : y ≤ 160) (hst : st ≤ 160) :
    ∀ (d p s K : Nat) (li : Nat → Int32), p + d = y → d + 700 ≤ K → s < 256 → li 3 = nI st → li 4 = nI s → hro t B st (hrl (t.2.2.1 0) d p (nI s)) Q → wpX8_readFacet_c1 K 1 (hx_st t B (hq_N B 255) p) li lj Q := by
  intro d
  induction d with
  | zero =>
    intro p s K li hd hK hs e3 e4 H
    obtain ⟨K, rfl⟩ : ∃ K', K = K' + 1 := ⟨K - 1, by omega⟩
    show wbX8_readFacet_c1_1 (wpX8_readFacet_c1 K) K (hx_st t B (hq_N B 255) p) li lj Q
    refine ⟨fun _ => hre_two hs hst (by omega) e3 e4 H, fun x => absurd (show t.1 1 ≤ nI p from ?_) x⟩
    rw [h1]; exact nI_le (by omega) (by omega)
  | succ d ih =>
    intro p s K li hd hK hs e3 e4 H
    obtain ⟨K, rfl⟩ : ∃ K', K = K' + 1 := ⟨K - 1, by omega⟩
    show wbX8_readFacet_c1_1 (wpX8_readFacet_c1 K) K (hx_st t B (hq_N B 255) p) li lj Q
    refine ⟨fun x => ?_, fun _ => ?_⟩
    · have x : t.1 1 ≤ nI p := x
      rw [h1] at x
      exact absurd x (nI_ge (by omega) (by omega))
    have H : hro t B st (if (97 : Int32) ≤ t.2.2.1 0 p ∧ t.2.2.1 0 p ≤ 104 then (if ¬ nI s &&& ((1 : Int32) <<< ((t.2.2.1 0 p - 97) &&& 31)) = 0 then (nI (8 * p + 2), p, nI s) else if hm_bc (nI s) = 5 then (nI (8 * p + 3), p, nI s) else hrl (t.2.2.1 0) d (p + 1) (nI s ||| ((1 : Int32) <<< ((t.2.2.1 0 p - 97) &&& 31)))) else (0, p, nI s)) Q := H
    refine hre_at (t := hx_st t B (hq_N B 255) p) (p := p) h1 hy (by omega) (by omega) ?_
    rw [if_pos (by omega)]
    have D0 : (hx_st t B (hq_N B 255) p).2.2.1 0 p = t.2.2.1 0 p := rfl
    rw [D0]
    refine hre_letterX (by omega) ?_
    by_cases c : (97 : Int32) ≤ t.2.2.1 0 p ∧ t.2.2.1 0 p ≤ 104
    · rw [if_pos c] at H ⊢
      refine ⟨fun x => absurd x (by decide), fun _ => ?_⟩
      refine hre_at (t := hx_st t B (hq_N B 255) p) (p := p) h1 hy (by omega) (by omega) ?_
      rw [if_pos (by omega), D0]
      intro v12 e12 v13 e13 v14 e14
      rw [e12] at e13
      rw [e4, e13] at e14
      obtain ⟨j, hj, ej⟩ := hre_bit c
      refine ⟨fun y => ?_, fun y => ?_⟩
      · rw [e14] at y
        rw [if_neg (fun q => q y)] at H
        rw [e4]
        refine hm_bitCount (by omega) ⟨fun z v18 e18 v19 e19 t20 e20 => ?_, fun z => ?_⟩
        · rw [if_neg z] at H
          obtain ⟨s', hs', es⟩ := hre_or hs hj
          have e18 : v18 = nI s' := by rw [e18, e13, ej]; exact es
          have e19 : v19 = nI (p + 1) := e19.trans (nI_1 p)
          rw [ej, es] at H
          rw [e20, e19, hxs_p]
          exact ih (p + 1) s' K _ (by omega) (by omega) hs' e3 e18 H
        · rw [if_pos z] at H
          exact hre_fault (k := 3) (p := p) (by omega) (by omega) (by omega) (H.1 (fun q => absurd ((nI_eq (b := 0) (by omega) (by omega)).mp q) (by omega)) p)
      · rw [e14] at y
        rw [if_pos y] at H
        exact hre_fault (k := 2) (p := p) (by omega) (by omega) (by omega) (H.1 (fun q => absurd ((nI_eq (b := 0) (by omega) (by omega)).mp q) (by omega)) p)
    · rw [if_neg c] at H ⊢
      exact ⟨fun _ => hre_two hs hst (by omega) e3 e4 H, fun x => absurd rfl x⟩
