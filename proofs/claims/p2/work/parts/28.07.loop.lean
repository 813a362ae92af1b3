/-! ===== reading, exactly: the loop over FACETS, of the class ===== -/
/-- what is told by a list of sets -/
def hrT : List Int32 → Nat → Int32
  | [], _ => 0
  | s :: l, a => if 0 < a ∧ nI a &&& (s ^^^ (-1)) = 0 then 1 else hrT l a
/-- the FAULT or 0, the sets told: d FACETS more, f read, p the place -/
def hrd (D : Nat → Int32) (y : Nat) : Nat → Nat → Nat → List Int32 → Int32 × List Int32
  | 0, _, p, l => (nI (8 * p + 4), l)
  | d + 1, f, p, l =>
    if ¬ (hrf D y (nI f) (hre_sk D (y - p) p)).1 = 0 then ((hrf D y (nI f) (hre_sk D (y - p) p)).1, l)
    else if ¬ hq_N (hrT ((hrf D y (nI f) (hre_sk D (y - p) p)).2.2 :: l)) 255 ≤ 60 then (nI (8 * hre_sk D (y - p) p + 5), l)
    else if hre_sk D (y - (hrf D y (nI f) (hre_sk D (y - p) p)).2.1) (hrf D y (nI f) (hre_sk D (y - p) p)).2.1 = y then (0, (hrf D y (nI f) (hre_sk D (y - p) p)).2.2 :: l)
    else if D (hre_sk D (y - (hrf D y (nI f) (hre_sk D (y - p) p)).2.1) (hrf D y (nI f) (hre_sk D (y - p) p)).2.1) = 44 then hrd D y d (f + 1) (hre_sk D (y - (hrf D y (nI f) (hre_sk D (y - p) p)).2.1) (hrf D y (nI f) (hre_sk D (y - p) p)).2.1 + 1) ((hrf D y (nI f) (hre_sk D (y - p) p)).2.2 :: l)
    else (nI (8 * hre_sk D (y - (hrf D y (nI f) (hre_sk D (y - p) p)).2.1) (hrf D y (nI f) (hre_sk D (y - p) p)).2.1 + 1), l)
theorem hrf_in {D : Nat → Int32} {y p : Nat} {a : Int32} (hp : p ≤ y) : p ≤ (hrf D y a p).2.1 ∧ (hrf D y a p).2.1 ≤ y := by
  unfold hrf
  by_cases c : (97 : Int32) ≤ (if p < y then D p else -1) ∧ (if p < y then D p else -1) ≤ 104
  · rw [if_pos c]
    by_cases e : a = 24
    · rw [if_pos e]; exact ⟨Nat.le_refl p, hp⟩
    · rw [if_neg e]
      have i := @hrl_in D (y - p) p (nI 0)
      exact ⟨i.1, by omega⟩
  · rw [if_neg c]; exact ⟨Nat.le_refl p, hp⟩
theorem hre_k0 {p k : Nat} (hp : p ≤ 160) (hk : 0 < k) (hk5 : k ≤ 5) : ¬ nI (8 * p + k) = 0 := fun q => absurd ((nI_eq (b := 0) (by omega) (by omega)).mp q) (by omega)
theorem hrf_24 {D : Nat → Int32} {y p : Nat} (hp : p ≤ 160) : ¬ (hrf D y (nI 24) p).1 = 0 := by
  unfold hrf
  by_cases c : (97 : Int32) ≤ (if p < y then D p else -1) ∧ (if p < y then D p else -1) ≤ 104
  · rw [if_pos c, if_pos (show nI 24 = 24 by decide)]; exact hre_k0 hp (by omega) (by omega)
  · rw [if_neg c]; exact hre_k0 hp (by omega) (by omega)
theorem hrT_told {B B' : Nat → Int32} {l : List Int32} {s : Int32} (h : hrz B (hrT l)) (b : hrt B B' s) : hrz B' (hrT (s :: l)) := by
  intro a ha
  rw [b a ha, h a ha]
  show _ ↔ (if 0 < a ∧ nI a &&& (s ^^^ (-1)) = 0 then (1 : Int32) else hrT l a) ≠ 0
  by_cases c : 0 < a ∧ nI a &&& (s ^^^ (-1)) = 0
  · rw [if_pos c]; exact ⟨fun _ => by decide, fun _ => Or.inr c⟩
  · rw [if_neg c]; exact ⟨fun z => z.elim id (fun w => absurd w c), Or.inl⟩
def hrx (t : XT) (y : Nat) (o : Int32 × List Int32) (Q : Int32 → XT → Prop) : Prop :=
  (¬ o.1 = 0 → ∀ B' p', Q o.1 (hx_st t B' (hq_N B' 255) p')) ∧ (o.1 = 0 → ∀ B', hrz B' (hrT o.2) → Q 0 (hx_st t B' (hq_N B' 255) y))
theorem hre_read_go {t : XT} {y : Nat} {lj : Nat → Int64} {Q : Int32 → XT → Prop} (h1 : t.1 1 = nI y) (hy : y ≤ 160) :
    ∀ (d f p K : Nat) (l : List Int32) (B li : Nat → Int32), f + d = 25 → d + 1500 ≤ K → p ≤ y → li 2 = nI f → hrz B (hrT l) → hrx t y (hrd (t.2.2.1 0) y d f p l) Q → wpX8_read_c1 K 1 (hx_st t B (hq_N B 255) p) li lj Q := by
  intro d
  induction d with
  | zero =>
    intro f p K l B li hd hK hp e2 hB H
    obtain ⟨K, rfl⟩ : ∃ K', K = K' + 1 := ⟨K - 1, by omega⟩
    obtain rfl : f = 25 := by omega
    show wbX8_read_c1_1 (wpX8_read_c1 K) K (hx_st t B (hq_N B 255) p) li lj Q
    refine ⟨fun _ => hre_fault (k := 4) (p := p) (by omega) (by omega) (by omega) (H.1 (hre_k0 (by omega) (by omega) (by omega)) B p), fun x => absurd (show nI 24 < li 2 by rw [e2]; exact nI_lt (by omega) (by omega)) x⟩
  | succ d ih =>
    intro f p K l B li hd hK hp e2 hB H
    obtain ⟨K, rfl⟩ : ∃ K', K = K' + 1 := ⟨K - 1, by omega⟩
    unfold hrd at H
    show wbX8_read_c1_1 (wpX8_read_c1 K) K (hx_st t B (hq_N B 255) p) li lj Q
    have isk := hre_sk_in (t.2.2.1 0) (y - p) p
    refine ⟨fun x => ?_, fun _ => hre_skip (t := sI (sA t 1 B) 2 (nI (hq_N B 255))) h1 hy hp (by omega) ?_⟩
    · rw [e2] at x
      have x := Int32.lt_iff_toInt_lt.mp x
      rw [nI_toInt (by omega), show (24 : Int32).toInt = 24 from by decide] at x
      omega
    have D0 : (sI (sA t 1 B) 2 (nI (hq_N B 255))).2.2.1 0 = t.2.2.1 0 := rfl
    rw [D0]
    obtain ⟨q, hq⟩ : ∃ q, q = hre_sk (t.2.2.1 0) (y - p) p := ⟨_, rfl⟩
    rw [← hq] at H isk ⊢
    show wqX8_readFacet_c1 K (hx_st t B (hq_N B 255) q) (li 2) _
    rw [e2]
    obtain ⟨o, ho⟩ : ∃ o, o = hrf (t.2.2.1 0) y (nI f) q := ⟨_, rfl⟩
    have io := @hrf_in (t.2.2.1 0) y q (nI f) (by omega)
    rw [← ho] at H io
    refine hre_readFacet h1 hy (by omega) (by omega) ?_
    rw [← ho]
    refine ⟨fun no p' => ⟨fun z => absurd z no, fun _ => ?_⟩, fun yes B' hB' => ?_⟩
    · rw [if_pos no] at H
      exact H.1 no B p'
    rw [if_neg (fun z => z yes)] at H
    have hz := hrT_told hB hB'
    have nn := hrz_N hz 255 (by decide)
    rw [← nn] at H
    refine ⟨fun le => ⟨fun _ => ?_, fun z => absurd rfl z⟩, fun gt => ⟨fun z => absurd z (hre_k0 (by omega) (by omega) (by omega)), fun _ => ?_⟩⟩
    · rw [if_neg (fun z => z le)] at H
      refine hre_skip (t := sI (sA t 1 B') 2 (nI (hq_N B' 255))) h1 hy (by omega) (by omega) ?_
      have D1 : (sI (sA t 1 B') 2 (nI (hq_N B' 255))).2.2.1 0 = t.2.2.1 0 := rfl
      rw [D1]
      have iw := hre_sk_in (t.2.2.1 0) (y - o.2.1) o.2.1
      obtain ⟨w, hw⟩ : ∃ w, w = hre_sk (t.2.2.1 0) (y - o.2.1) o.2.1 := ⟨_, rfl⟩
      rw [← hw] at H iw ⊢
      show (¬ nI w = t.1 1 → wqX10_at K (hx_st t B' (hq_N B' 255) w) (nI w) _) ∧ (nI w = t.1 1 → Q 0 (hx_st t B' (hq_N B' 255) w))
      rw [h1]
      refine ⟨fun ne => ?_, fun e => ?_⟩
      · have lt : w < y := Nat.lt_of_le_of_ne (by omega) (fun z => ne (congrArg nI z))
        rw [if_neg (show ¬ w = y by omega)] at H
        refine hre_at (t := hx_st t B' (hq_N B' 255) w) (p := w) h1 hy (by omega) (by omega) ?_
        rw [if_pos lt]
        show (t.2.2.1 0 w = 44 → _) ∧ (¬ t.2.2.1 0 w = 44 → _)
        refine ⟨fun c v13 e13 t14 e14 v15 e15 => ?_, fun c => ?_⟩
        · rw [if_pos c] at H
          have e13 : v13 = nI (w + 1) := e13.trans (nI_1 w)
          rw [e14, e13, hxs_p]
          exact ih (f + 1) (w + 1) K _ B' _ (by omega) (by omega) (by omega) (by show v15 = _; rw [e15]; exact hs_inc f) hz H
        · rw [if_neg c] at H
          exact hre_fault (k := 1) (p := w) (by omega) (by omega) (by omega) (H.1 (hre_k0 (by omega) (by omega) (by omega)) B' w)
      · have e : w = y := (nI_eq (by omega) (by omega)).mp e
        rw [if_pos e] at H
        rw [e]
        exact H.2 rfl B' hz
    · rw [if_pos gt] at H
      exact H.1 (hre_k0 (by omega) (by omega) (by omega)) B' _
theorem hre_read {t : XT} {y K : Nat} {Q : Int32 → XT → Prop} (h1 : t.1 1 = nI y) (hy : y ≤ 160) (hK : 1600 ≤ K) (H : hrx t y (hrd (t.2.2.1 0) y 25 0 0 []) Q) : wqX8_read_c1 K t Q := by
  obtain ⟨K, rfl⟩ : ∃ K', K = K' + 1 := ⟨K - 1, by omega⟩
  show wbX8_read_c1_0 (wpX8_read_c1 K) K t (fun _ => 0) (fun _ => 0) Q
  intro t1 e1 t2 e2 t3 e3
  have n0 : hq_N (fun _ => 0) 255 = 0 := by decide +kernel
  have s : t3 = hx_st t (fun _ => 0) (hq_N (fun _ => 0) 255) 0 := by rw [e3, e2, e1, n0]; rfl
  rw [s]
  exact hre_read_go h1 hy 25 0 0 K [] (fun _ => 0) _ (by omega) (by omega) (by omega) rfl (fun _ _ => Iff.rfl) H
