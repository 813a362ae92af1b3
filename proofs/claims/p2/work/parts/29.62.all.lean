/-! ===== the reference's past, exactly; both sides: PAIRS, past, what is kept ===== -/
theorem hmx_remembers {t : XT} {n K : Nat} {Q : XT → Prop} (h4 : t.1 4 = nI n) (hn : n ≤ 16) (hK : 4000 ≤ K)
    (h : ∀ R : Nat → Int32, (∀ i, i < (if n = 16 then 16 else n + 1) → ∀ k, k < 60 → R (120 * i + k) = hhP n (fun i k => t.2.2.1 8 (120 * i + k)) (t.2.2.1 4) i k ∧ (R (120 * i + 60 + k) = 1 ↔ hhP n (fun i k => t.2.2.1 8 (120 * i + 60 + k) = 1) (fun k => t.2.2.1 5 k ≠ 0) i k)) → Q (sI (sA t 8 R) 4 (nI (if n = 16 then 16 else n + 1)))) : wqX12_remembers K t Q := by
  obtain ⟨K, rfl⟩ : ∃ K', K = K' + 1 := ⟨K - 1, by omega⟩
  show wbX12_remembers_0 (wpX12_remembers K) K t (fun _ => 0) (fun _ => 0) Q
  have bit : ∀ v : Int32, ((if v = 0 then (0 : Int32) else 1) = 1 ↔ v ≠ 0) := by
    intro v
    by_cases z : v = 0
    · rw [if_pos z]; exact ⟨fun w => absurd w (by decide), fun w => absurd z w⟩
    · rw [if_neg z]; exact ⟨fun _ => z, fun _ => rfl⟩
  refine ⟨fun c => ?_, fun c => ?_⟩
  · have hn15 : n ≤ 15 := by
      refine Classical.byContradiction (fun z => c ?_)
      rw [h4, show n = 16 by omega]; rfl
    rw [if_neg (show ¬ n = 16 by omega)] at h
    refine hq_rem2 hn15 h4 (by omega) (h _ (fun i hi k hk => ?_))
    unfold hhP
    rw [if_neg (show ¬ n = 16 by omega), if_neg (show ¬ n = 16 by omega)]
    by_cases y : i < n
    · rw [if_pos y, if_pos y]
      have e1 : hq_put 60 (120 * n) (t.2.2.1 4) (t.2.2.1 5) (t.2.2.1 8) (120 * i + k) = t.2.2.1 8 (120 * i + k) := (if_neg (by omega)).trans (if_neg (by omega))
      have e2 : hq_put 60 (120 * n) (t.2.2.1 4) (t.2.2.1 5) (t.2.2.1 8) (120 * i + 60 + k) = t.2.2.1 8 (120 * i + 60 + k) := (if_neg (by omega)).trans (if_neg (by omega))
      rw [e1, e2]; exact ⟨rfl, Iff.rfl⟩
    · have : i = n := by omega
      subst this
      rw [if_neg y, if_neg y]
      refine ⟨?_, ?_⟩
      · unfold hq_put
        rw [if_pos (show 120 * i ≤ 120 * i + k ∧ 120 * i + k < 120 * i + 60 by omega), show 120 * i + k - 120 * i = k by omega]
      · unfold hq_put
        rw [if_neg (show ¬ (120 * i ≤ 120 * i + 60 + k ∧ 120 * i + 60 + k < 120 * i + 60) by omega), if_pos (show 120 * i + 60 ≤ 120 * i + 60 + k ∧ 120 * i + 60 + k < 120 * i + 60 + 60 by omega), show 120 * i + 60 + k - (120 * i + 60) = k by omega]
        exact bit _
  · have n16 : n = 16 := (nI_eq (b := 16) (by omega) (by omega)).mp (h4.symm.trans c)
    subst n16
    rw [if_pos rfl] at h
    have st : sA t 8 (hq_shf 0 (t.2.2.1 8)) = t := by
      have z : hq_shf 0 (t.2.2.1 8) = t.2.2.1 8 := by
        funext j
        exact if_neg (by omega)
      rw [z, hm_sA0]
    have g := hq_shift_go (t := t) (P := t.2.2.1 8) (lj := fun _ => 0) (Q := Q) 70 (fun K' li' hK' => ?_) 1800 0 K (uI (fun _ => 0) 1 120) (by omega) (by omega) rfl
    · rw [st] at g; exact g
    · refine hq_rem2 (n := 15) (by omega) (by show t.1 4 - 1 = _; rw [h4]; rfl) hK' ?_
      rw [hq_fold]
      refine h _ (fun i hi k hk => ?_)
      unfold hhP
      rw [if_pos rfl, if_pos rfl]
      by_cases y : i < 15
      · rw [if_pos y, if_pos y]
        have e1 : hq_shf 1800 (t.2.2.1 8) (120 * i + k) = t.2.2.1 8 (120 * (i + 1) + k) := by
          unfold hq_shf
          rw [if_pos (show 120 * i + k < 1800 by omega), show 120 * i + k + 120 = 120 * (i + 1) + k by omega]
        have e2 : hq_shf 1800 (t.2.2.1 8) (120 * i + 60 + k) = t.2.2.1 8 (120 * (i + 1) + 60 + k) := by
          unfold hq_shf
          rw [if_pos (show 120 * i + 60 + k < 1800 by omega), show 120 * i + 60 + k + 120 = 120 * (i + 1) + 60 + k by omega]
        refine ⟨(if_neg (by omega)).trans ((if_neg (by omega)).trans e1), ?_⟩
        show _ = 1 ↔ t.2.2.1 8 (120 * (i + 1) + 60 + k) = 1
        rw [← e2]
        have e3 : hq_put 60 (120 * 15) ((sI (sA t 8 (hq_shf 1800 (t.2.2.1 8))) 4 (t.1 4 - 1)).2.2.1 4) ((sI (sA t 8 (hq_shf 1800 (t.2.2.1 8))) 4 (t.1 4 - 1)).2.2.1 5) ((sI (sA t 8 (hq_shf 1800 (t.2.2.1 8))) 4 (t.1 4 - 1)).2.2.1 8) (120 * i + 60 + k) = hq_shf 1800 (t.2.2.1 8) (120 * i + 60 + k) := (if_neg (by omega)).trans (if_neg (by omega))
        rw [e3]
      · have : i = 15 := by omega
        subst this
        rw [if_neg y, if_neg y]
        refine ⟨?_, ?_⟩
        · unfold hq_put
          rw [if_pos (show 120 * 15 ≤ 120 * 15 + k ∧ 120 * 15 + k < 120 * 15 + 60 by omega), show 120 * 15 + k - 120 * 15 = k by omega]; rfl
        · unfold hq_put
          rw [if_neg (show ¬ (120 * 15 ≤ 120 * 15 + 60 + k ∧ 120 * 15 + 60 + k < 120 * 15 + 60) by omega), if_pos (show 120 * 15 + 60 ≤ 120 * 15 + 60 + k ∧ 120 * 15 + 60 + k < 120 * 15 + 60 + 60 by omega), show 120 * 15 + 60 + k - (120 * 15 + 60) = k by omega]
          exact bit _
def hmA (t : XT) (i k : Nat) : Int32 := t.2.2.1 8 (120 * i + k)
def hmB (t : XT) (i k : Nat) : Prop := t.2.2.1 8 (120 * i + 60 + k) = 1
def hPJ (tx tm : XT) (c : Nat) : Prop := hpX tx c (hm_par tm) (fun k => hm_gone tm k ≠ 0)
def hHJ (tx tm : XT) (c : Nat) : Prop := ∃ n, tm.1 4 = nI n ∧ hhX tx c n (hmA tm) (hmB tm)
def hKJ (tx tm : XT) (c : Nat) : Prop := ∀ i, i < 3 → (hb (tx.2.1 6) i = true ↔ tm.2.2.1 14 i ≠ 0) ∧ (tm.2.2.1 14 i ≠ 0 → (∀ k, k < c → tx.2.2.1 10 (64 * i + k) = tm.2.2.1 15 (60 * i + k)) ∧ ∀ k, c ≤ k → k < 64 → tx.2.2.1 10 (64 * i + k) = -1)
def hAl (n : Nat) (tx tm : XT) : Prop := hJt n tx tm ∧ ∃ c L, hnL L c ∧ hcE tx L c ∧ hmE tm L c ∧ hPJ tx tm c ∧ hHJ tx tm c ∧ hKJ tx tm c
theorem hhX_ext {t : XT} {c n : Nat} {A A' : Nat → Nat → Int32} {B B' : Nat → Nat → Prop} (h : hhX t c n A B) (e : ∀ i, i < n → ∀ k, k < c → A' i k = A i k ∧ (B' i k ↔ B i k)) : hhX t c n A' B' := by
  obtain ⟨a, b, h0, d, e9, f⟩ := h
  refine ⟨a, b, h0, d, e9, fun i hi => ?_⟩
  obtain ⟨w1, w2, w3⟩ := f i hi
  exact ⟨fun k hk => (w1 k hk).trans (e i hi k hk).1.symm, w2, fun k => (w3 k).trans (and_congr_right (fun hk => not_congr (e i hi k hk).2.symm))⟩
/-- what acts change, of the class and of the reference -/
def hpQ (t : XT) : (Int32 × Int32) × (Int64 × Int64 × Int64 × Int64) × ((Nat → Int32) × (Nat → Int32) × (Nat → Int32)) × (Nat → Int64) := ((t.1 8, t.1 9), (t.2.1 0, t.2.1 1, t.2.1 2, t.2.1 6), (t.2.2.1 5, t.2.2.1 9, t.2.2.1 10), t.2.2.2 6)
def hqQ (t : XT) : Int32 × ((Nat → Int32) × (Nat → Int32) × (Nat → Int32) × (Nat → Int32) × (Nat → Int32)) := (t.1 4, (t.2.2.1 4, t.2.2.1 5, t.2.2.1 8, t.2.2.1 14, t.2.2.1 15))
theorem hpQ_kp (v : (Int32 × Int32) × (Int64 × Int64 × Int64 × Int64) × ((Nat → Int32) × (Nat → Int32) × (Nat → Int32)) × (Nat → Int64)) : kpP (fun t => hpQ t = v) := by
  refine ⟨fun u i w h8 h9 h => ?_, fun u i w h0 h1 h2 h6 h => ?_, fun u i f h5 h9 h10 h => ?_, fun u i f h6 h => ?_⟩
  · rw [← h]
    have a : (sI u i w).1 8 = u.1 8 := hc_uI u.1 w h8
    have b : (sI u i w).1 9 = u.1 9 := hc_uI u.1 w h9
    show ((_, _), _) = _
    rw [a, b]; rfl
  · rw [← h]
    have a0 : (sJ u i w).2.1 0 = u.2.1 0 := hc_uI u.2.1 w h0
    have a1 : (sJ u i w).2.1 1 = u.2.1 1 := hc_uI u.2.1 w h1
    have a2 : (sJ u i w).2.1 2 = u.2.1 2 := hc_uI u.2.1 w h2
    have a6 : (sJ u i w).2.1 6 = u.2.1 6 := hc_uI u.2.1 w h6
    show hpQ (sJ u i w) = hpQ u
    unfold hpQ
    rw [a0, a1, a2, a6]; rfl
  · rw [← h]
    have a5 : (sA u i f).2.2.1 5 = u.2.2.1 5 := hc_uI u.2.2.1 f h5
    have a9 : (sA u i f).2.2.1 9 = u.2.2.1 9 := hc_uI u.2.2.1 f h9
    have a10 : (sA u i f).2.2.1 10 = u.2.2.1 10 := hc_uI u.2.2.1 f h10
    show hpQ (sA u i f) = hpQ u
    unfold hpQ
    rw [a5, a9, a10]; rfl
  · rw [← h]
    have a6 : (sB u i f).2.2.2 6 = u.2.2.2 6 := hc_uI u.2.2.2 f h6
    show hpQ (sB u i f) = hpQ u
    unfold hpQ
    rw [a6]; rfl
theorem hqQ_kp (v : Int32 × ((Nat → Int32) × (Nat → Int32) × (Nat → Int32) × (Nat → Int32) × (Nat → Int32))) : kpQ (fun t => hqQ t = v) := by
  refine ⟨fun u i w h4 h => ?_, fun u i w h => h, fun u i f h4 h5 h8 h14 h15 h => ?_, fun u i f h => h⟩
  · rw [← h]
    have a : (sI u i w).1 4 = u.1 4 := hc_uI u.1 w h4
    show hqQ (sI u i w) = hqQ u
    unfold hqQ
    rw [a]; rfl
  · rw [← h]
    have a4 : (sA u i f).2.2.1 4 = u.2.2.1 4 := hc_uI u.2.2.1 f h4
    have a5 : (sA u i f).2.2.1 5 = u.2.2.1 5 := hc_uI u.2.2.1 f h5
    have a8 : (sA u i f).2.2.1 8 = u.2.2.1 8 := hc_uI u.2.2.1 f h8
    have a14 : (sA u i f).2.2.1 14 = u.2.2.1 14 := hc_uI u.2.2.1 f h14
    have a15 : (sA u i f).2.2.1 15 = u.2.2.1 15 := hc_uI u.2.2.1 f h15
    show hqQ (sA u i f) = hqQ u
    unfold hqQ
    rw [a4, a5, a8, a14, a15]; rfl
theorem hAl_fr {tx tm tx' tm' : XT} {c : Nat} (ex : hpQ tx' = hpQ tx) (em : hqQ tm' = hqQ tm) (h : hPJ tx tm c ∧ hHJ tx tm c ∧ hKJ tx tm c) : hPJ tx' tm' c ∧ hHJ tx' tm' c ∧ hKJ tx' tm' c := by
  have x8 : tx'.1 8 = tx.1 8 := congrArg (fun q => q.1.1) ex
  have x9 : tx'.1 9 = tx.1 9 := congrArg (fun q => q.1.2) ex
  have j0 : tx'.2.1 0 = tx.2.1 0 := congrArg (fun q => q.2.1.1) ex
  have j1 : tx'.2.1 1 = tx.2.1 1 := congrArg (fun q => q.2.1.2.1) ex
  have j2 : tx'.2.1 2 = tx.2.1 2 := congrArg (fun q => q.2.1.2.2.1) ex
  have j6 : tx'.2.1 6 = tx.2.1 6 := congrArg (fun q => q.2.1.2.2.2) ex
  have r5 : tx'.2.2.1 5 = tx.2.2.1 5 := congrArg (fun q => q.2.2.1.1) ex
  have r9 : tx'.2.2.1 9 = tx.2.2.1 9 := congrArg (fun q => q.2.2.1.2.1) ex
  have r10 : tx'.2.2.1 10 = tx.2.2.1 10 := congrArg (fun q => q.2.2.1.2.2) ex
  have l6 : tx'.2.2.2 6 = tx.2.2.2 6 := congrArg (fun q => q.2.2.2) ex
  have m4 : tm'.1 4 = tm.1 4 := congrArg (fun q => q.1) em
  have s4 : tm'.2.2.1 4 = tm.2.2.1 4 := congrArg (fun q => q.2.1) em
  have s5 : tm'.2.2.1 5 = tm.2.2.1 5 := congrArg (fun q => q.2.2.1) em
  have s8 : tm'.2.2.1 8 = tm.2.2.1 8 := congrArg (fun q => q.2.2.2.1) em
  have s14 : tm'.2.2.1 14 = tm.2.2.1 14 := congrArg (fun q => q.2.2.2.2.1) em
  have s15 : tm'.2.2.1 15 = tm.2.2.1 15 := congrArg (fun q => q.2.2.2.2.2) em
  obtain ⟨hP, ⟨n, hn, hH⟩, hK⟩ := h
  refine ⟨?_, ⟨n, m4.trans hn, ?_⟩, ?_⟩
  · unfold hPJ hpX hm_par hm_gone at hP ⊢
    rw [j0, j1, j2, r5, s4, s5]; exact hP
  · refine hhX_ext (hhX_fr hH x8 x9 r9 l6) (fun i hi k hk => ?_)
    unfold hmA hmB
    rw [s8]; exact ⟨rfl, Iff.rfl⟩
  · unfold hKJ at hK ⊢
    rw [j6, r10, s14, s15]; exact hK
