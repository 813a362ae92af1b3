/-! ===== reference, pure: remembers (what can be UNDONE) ===== -/
def hq_shf (c : Nat) (P : Nat → Int32) : Nat → Int32 := fun j => if j < c then P (j + 120) else P j
theorem hq_shf_step (c : Nat) (P : Nat → Int32) : upd (hq_shf c P) c (hq_shf c P (c + 120)) = hq_shf (c + 1) P := by
  funext j
  show (if j = c then (if c + 120 < c then P (c + 120 + 120) else P (c + 120)) else if j < c then P (j + 120) else P j) = if j < c + 1 then P (j + 120) else P j
  rw [if_neg (show ¬ c + 120 < c by omega)]
  by_cases a : j = c
  · rw [if_pos a, if_pos (show j < c + 1 by omega), a]
  · rw [if_neg a]
    by_cases b : j < c
    · rw [if_pos b, if_pos (show j < c + 1 by omega)]
    · rw [if_neg b, if_neg (show ¬ j < c + 1 by omega)]
theorem hq_sub (k : Nat) : nI (k + 120) - 120 = nI k := by
  rw [← nI_add]
  exact Int32.add_sub_cancel (nI k) (nI 120)
theorem hq_shift_go {t : XT} {P : Nat → Int32} {lj : Nat → Int64} {Q : XT → Prop} (L : Nat) (cont : ∀ (K' : Nat) (li' : Nat → Int32), L ≤ K' → wpX12_remembers K' 2 (sI (sA t 8 (hq_shf 1800 P)) 4 (t.1 4 - 1)) li' lj Q) :
    ∀ (d i K : Nat) (li : Nat → Int32), i + d = 1800 → d + L + 1 ≤ K → li 1 = nI (i + 120) → wpX12_remembers K 1 (sA t 8 (hq_shf i P)) li lj Q := by
  intro d
  induction d with
  | zero =>
    intro i K li hd hK e1
    obtain ⟨K, rfl⟩ : ∃ K', K = K' + 1 := ⟨K - 1, by omega⟩
    obtain rfl : i = 1800 := by omega
    show wbX12_remembers_1 (wpX12_remembers K) K (sA t 8 (hq_shf 1800 P)) li lj Q
    refine ⟨fun _ v3 e3 t4 e4 => ?_, fun c => absurd ?_ c⟩
    · rw [e4, e3]; exact cont K li (by omega)
    · show nI 1920 ≤ li 1
      rw [e1]; exact nI_le (by omega) (by omega)
  | succ d ih =>
    intro i K li hd hK e1
    obtain ⟨K, rfl⟩ : ∃ K', K = K' + 1 := ⟨K - 1, by omega⟩
    show wbX12_remembers_1 (wpX12_remembers K) K (sA t 8 (hq_shf i P)) li lj Q
    unfold wbX12_remembers_1
    rw [e1]
    refine ⟨fun c => absurd (show nI 1920 ≤ nI (i + 120) from c) (nI_ge (by omega) (by omega)), fun _ v5 e5 => ?_⟩
    have e5 : v5 = nI i := by rw [e5]; exact hq_sub i
    subst e5
    refine ⟨vp_in_nI (by omega) (by decide), fun v6 e6 => ⟨vp_in_nI (by omega) (by decide), fun t7 e7 v8 e8 => ?_⟩⟩
    have c1 : (nI (i + 120)).toNatClampNeg = i + 120 := nI_clamp (by omega)
    have c2 : (nI i).toNatClampNeg = i := nI_clamp (by omega)
    have e7' : t7 = sA t 8 (hq_shf (i + 1) P) := by
      rw [e7, e6]
      show sA (sA t 8 (hq_shf i P)) 8 (upd (hq_shf i P) (nI i).toNatClampNeg (hq_shf i P (nI (i + 120)).toNatClampNeg)) = _
      rw [hm_sAA, c1, c2, hq_shf_step]
    have e8 : v8 = nI (i + 1 + 120) := by rw [e8]; exact (hs_inc (i + 120)).trans (congrArg nI (by omega))
    rw [e7']
    exact ih (i + 1) K (uI li 1 v8) (by omega) (by omega) e8
def hq_put (c a : Nat) (p g P : Nat → Int32) : Nat → Int32 := fun j => if a ≤ j ∧ j < a + c then p (j - a) else if a + 60 ≤ j ∧ j < a + 60 + c then (if g (j - (a + 60)) = 0 then 0 else 1) else P j
theorem hq_put_step {c a : Nat} {p g P : Nat → Int32} (hc : c < 60) : upd (upd (hq_put c a p g P) (a + c) (p c)) (a + 60 + c) (if g c = 0 then 0 else 1) = hq_put (c + 1) a p g P := by
  funext j
  show (if j = a + 60 + c then (if g c = 0 then (0 : Int32) else 1) else if j = a + c then p c else hq_put c a p g P j) = hq_put (c + 1) a p g P j
  unfold hq_put
  by_cases x : j = a + 60 + c
  · rw [if_pos x, if_neg (show ¬ (a ≤ j ∧ j < a + (c + 1)) by omega), if_pos (show a + 60 ≤ j ∧ j < a + 60 + (c + 1) by omega), show j - (a + 60) = c by omega]
  · rw [if_neg x]
    by_cases y : j = a + c
    · rw [if_pos y, if_pos (show a ≤ j ∧ j < a + (c + 1) by omega), show j - a = c by omega]
    · rw [if_neg y]
      by_cases z : a ≤ j ∧ j < a + c
      · rw [if_pos z, if_pos (show a ≤ j ∧ j < a + (c + 1) by omega)]
      · rw [if_neg z, if_neg (show ¬ (a ≤ j ∧ j < a + (c + 1)) by omega)]
        by_cases w : a + 60 ≤ j ∧ j < a + 60 + c
        · rw [if_pos w, if_pos (show a + 60 ≤ j ∧ j < a + 60 + (c + 1) by omega)]
        · rw [if_neg w, if_neg (show ¬ (a + 60 ≤ j ∧ j < a + 60 + (c + 1)) by omega)]
theorem hq_put_go {t : XT} {n : Nat} {P : Nat → Int32} {lj : Nat → Int64} {Q : XT → Prop} (hn : n ≤ 15) (h4 : t.1 4 = nI n) (hQ : Q (sI (sA t 8 (hq_put 60 (120 * n) (t.2.2.1 4) (t.2.2.1 5) P)) 4 (nI (n + 1)))) :
    ∀ (d c K : Nat) (li : Nat → Int32), c + d = 60 → d + 3 ≤ K → li 1 = nI (120 * n) → li 2 = nI c → wpX12_remembers K 3 (sA t 8 (hq_put c (120 * n) (t.2.2.1 4) (t.2.2.1 5) P)) li lj Q := by
  intro d
  induction d with
  | zero =>
    intro c K li hd hK e1 e2
    obtain ⟨K, rfl⟩ : ∃ K', K = K' + 1 := ⟨K - 1, by omega⟩
    obtain rfl : c = 60 := by omega
    show wbX12_remembers_3 (wpX12_remembers K) K (sA t 8 (hq_put 60 (120 * n) (t.2.2.1 4) (t.2.2.1 5) P)) li lj Q
    refine ⟨fun _ v3 e3 t4 e4 => ?_, fun c => absurd ?_ c⟩
    · have e3 : v3 = nI (n + 1) := by
        rw [e3]
        show t.1 4 + 1 = _
        rw [h4]; exact nI_1 n
      rw [e4, e3]; exact hQ
    · show nI 60 ≤ li 2
      rw [e2]; exact nI_le (by omega) (by omega)
  | succ d ih =>
    intro c K li hd hK e1 e2
    obtain ⟨K, rfl⟩ : ∃ K', K = K' + 1 := ⟨K - 1, by omega⟩
    show wbX12_remembers_3 (wpX12_remembers K) K (sA t 8 (hq_put c (120 * n) (t.2.2.1 4) (t.2.2.1 5) P)) li lj Q
    unfold wbX12_remembers_3
    rw [e1, e2]
    refine ⟨fun x => absurd (show nI 60 ≤ nI c from x) (nI_ge (by omega) (by omega)), fun _ v13 e13 => ?_⟩
    have e13 : v13 = nI (120 * n + c) := e13.trans (nI_add _ _)
    subst e13
    refine ⟨vp_in_nI (by omega) (by decide), fun v14 e14 => ⟨vp_in_nI (by omega) (by decide), fun t15 e15 v16 e16 v17 e17 => ⟨vp_in_nI (by omega) (by decide), fun v18 e18 => ?_⟩⟩⟩
    have e17 : v17 = nI (120 * n + 60 + c) := by
      rw [e17, e16]
      exact (congrArg (· + nI c) (nI_add (120 * n) 60)).trans (nI_add _ _)
    clear e16
    subst e17
    subst e14
    subst e15
    subst e18
    refine hm_truth (by omega) ?_
    refine ⟨vp_in_nI (by omega) (by decide), fun t20 e20 v21 e21 => ?_⟩
    have cc : (nI c).toNatClampNeg = c := nI_clamp (by omega)
    have c13 : (nI (120 * n + c)).toNatClampNeg = 120 * n + c := nI_clamp (by omega)
    have c17 : (nI (120 * n + 60 + c)).toNatClampNeg = 120 * n + 60 + c := nI_clamp (by omega)
    have e20' : t20 = sA t 8 (hq_put (c + 1) (120 * n) (t.2.2.1 4) (t.2.2.1 5) P) := by
      rw [e20]
      show sA (sA (sA t 8 (hq_put c (120 * n) (t.2.2.1 4) (t.2.2.1 5) P)) 8 (upd (hq_put c (120 * n) (t.2.2.1 4) (t.2.2.1 5) P) (nI (120 * n + c)).toNatClampNeg (t.2.2.1 4 (nI c).toNatClampNeg))) 8 (upd (upd (hq_put c (120 * n) (t.2.2.1 4) (t.2.2.1 5) P) (nI (120 * n + c)).toNatClampNeg (t.2.2.1 4 (nI c).toNatClampNeg)) (nI (120 * n + 60 + c)).toNatClampNeg (if t.2.2.1 5 (nI c).toNatClampNeg = 0 then 0 else 1)) = _
      rw [hm_sAA, hm_sAA, cc, c13, c17, hq_put_step (by omega)]
    have e21 : v21 = nI (c + 1) := e21.trans (hs_inc c)
    rw [e20']
    exact ih (c + 1) K (uI li 2 v21) (by omega) (by omega) e1 e21
theorem hq_put0 (a : Nat) (p g P : Nat → Int32) : hq_put 0 a p g P = P := by
  funext j
  exact (if_neg (by omega)).trans (if_neg (by omega))
theorem hq_120 : ∀ n, n < 17 → (120 : Int32) * nI n = nI (120 * n) := by decide +kernel
theorem hq_rem2 {t : XT} {n K : Nat} {li : Nat → Int32} {lj : Nat → Int64} {Q : XT → Prop} (hn : n ≤ 15) (h4 : t.1 4 = nI n) (hK : 70 ≤ K) (hQ : Q (sI (sA t 8 (hq_put 60 (120 * n) (t.2.2.1 4) (t.2.2.1 5) (t.2.2.1 8))) 4 (nI (n + 1)))) : wpX12_remembers K 2 t li lj Q := by
  obtain ⟨K, rfl⟩ : ∃ K', K = K' + 1 := ⟨K - 1, by omega⟩
  show wbX12_remembers_2 (wpX12_remembers K) K t li lj Q
  intro v9 e9
  have e9 : v9 = nI (120 * n) := by rw [e9, h4]; exact hq_120 n (by omega)
  have g := hq_put_go (lj := lj) hn h4 hQ 60 0 K (uI (uI li 1 v9) 2 0) (by omega) (by omega) e9 rfl
  rw [hq_put0, hm_sA0] at g
  exact g
theorem hq_fold (t : XT) (A B : Nat → Int32) (v w : Int32) : sI (sA (sI (sA t 8 A) 4 v) 8 B) 4 w = sI (sA t 8 B) 4 w := by
  unfold sI sA uI
  refine Prod.ext ?_ (Prod.ext rfl (Prod.ext ?_ rfl))
  · funext j
    show cond (Nat.beq j 4) w (cond (Nat.beq j 4) v (t.1 j)) = cond (Nat.beq j 4) w (t.1 j)
    cases Nat.beq j 4 <;> rfl
  · funext j
    show cond (Nat.beq j 8) B (cond (Nat.beq j 8) A (t.2.2.1 j)) = cond (Nat.beq j 8) B (t.2.2.1 j)
    cases Nat.beq j 8 <;> rfl
/-- what remembers leaves: the newest entry is the PAIRS and what is GONE now, every other one was there before. -/
def hq_pushed (t : XT) (n : Nat) (P : Nat → Int32) (n' : Nat) : Prop :=
  1 ≤ n' ∧ n' ≤ 16 ∧ (∀ k, k < 60 → P (120 * (n' - 1) + k) = t.2.2.1 4 k) ∧ (∀ k, k < 60 → P (120 * (n' - 1) + 60 + k) = if t.2.2.1 5 k = 0 then 0 else 1) ∧ ∀ j, j + 1 < n' → ∃ j', j' < n ∧ ∀ k, k < 120 → P (120 * j + k) = t.2.2.1 8 (120 * j' + k)
theorem hq_remembers {t : XT} {n K : Nat} {Q : XT → Prop} (h4 : t.1 4 = nI n) (hn : n ≤ 16) (hK : 4000 ≤ K) (h : ∀ P n', hq_pushed t n P n' → Q (sI (sA t 8 P) 4 (nI n'))) : wqX12_remembers K t Q := by
  obtain ⟨K, rfl⟩ : ∃ K', K = K' + 1 := ⟨K - 1, by omega⟩
  show wbX12_remembers_0 (wpX12_remembers K) K t (fun _ => 0) (fun _ => 0) Q
  refine ⟨fun c => ?_, fun c => ?_⟩
  · have hn15 : n ≤ 15 := by
      refine Classical.byContradiction (fun z => c ?_)
      rw [h4, show n = 16 by omega]; rfl
    refine hq_rem2 hn15 h4 (by omega) (h _ (n + 1) ⟨by omega, by omega, fun k hk => ?_, fun k hk => ?_, fun j hj => ⟨j, by omega, fun k hk => ?_⟩⟩)
    · unfold hq_put
      rw [if_pos (show 120 * n ≤ 120 * (n + 1 - 1) + k ∧ 120 * (n + 1 - 1) + k < 120 * n + 60 by omega), show 120 * (n + 1 - 1) + k - 120 * n = k by omega]
    · unfold hq_put
      rw [if_neg (show ¬ (120 * n ≤ 120 * (n + 1 - 1) + 60 + k ∧ 120 * (n + 1 - 1) + 60 + k < 120 * n + 60) by omega), if_pos (show 120 * n + 60 ≤ 120 * (n + 1 - 1) + 60 + k ∧ 120 * (n + 1 - 1) + 60 + k < 120 * n + 60 + 60 by omega), show 120 * (n + 1 - 1) + 60 + k - (120 * n + 60) = k by omega]
    · exact (if_neg (by omega)).trans (if_neg (by omega))
  · have n16 : n = 16 := (nI_eq (b := 16) (by omega) (by omega)).mp (h4.symm.trans c)
    subst n16
    have st : sA t 8 (hq_shf 0 (t.2.2.1 8)) = t := by
      have z : hq_shf 0 (t.2.2.1 8) = t.2.2.1 8 := by
        funext j
        exact if_neg (by omega)
      rw [z, hm_sA0]
    have g := hq_shift_go (t := t) (P := t.2.2.1 8) (lj := fun _ => 0) (Q := Q) 70 (fun K' li' hK' => ?_) 1800 0 K (uI (fun _ => 0) 1 120) (by omega) (by omega) rfl
    · rw [st] at g; exact g
    · refine hq_rem2 (n := 15) (by omega) (by show t.1 4 - 1 = _; rw [h4]; rfl) hK' ?_
      rw [hq_fold]
      refine h _ 16 ⟨by omega, by omega, fun k hk => ?_, fun k hk => ?_, fun j hj => ⟨j + 1, by omega, fun k hk => ?_⟩⟩
      · unfold hq_put
        rw [if_pos (show 120 * 15 ≤ 120 * (16 - 1) + k ∧ 120 * (16 - 1) + k < 120 * 15 + 60 by omega), show 120 * (16 - 1) + k - 120 * 15 = k by omega]; rfl
      · unfold hq_put
        rw [if_neg (show ¬ (120 * 15 ≤ 120 * (16 - 1) + 60 + k ∧ 120 * (16 - 1) + 60 + k < 120 * 15 + 60) by omega), if_pos (show 120 * 15 + 60 ≤ 120 * (16 - 1) + 60 + k ∧ 120 * (16 - 1) + 60 + k < 120 * 15 + 60 + 60 by omega), show 120 * (16 - 1) + 60 + k - (120 * 15 + 60) = k by omega]; rfl
      · refine (if_neg (by omega)).trans ((if_neg (by omega)).trans ?_)
        show hq_shf 1800 (t.2.2.1 8) (120 * j + k) = _
        unfold hq_shf
        rw [if_pos (show 120 * j + k < 1800 by omega), show 120 * j + k + 120 = 120 * (j + 1) + k by omega]
