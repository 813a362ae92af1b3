/-! ===== reference, pure: numbers: SIMPLICES by DIM, then by letters ===== -/
def hq_nm (t : XT) (L : Nat → Int32) (c : Nat) : XT := sI (sA t 2 L) 3 (nI c)
theorem hq_nm_put (t : XT) (L L' : Nat → Int32) (v w : Int32) : sI (sA (sI (sA t 2 L) 3 v) 2 L') 3 w = sI (sA t 2 L') 3 w := by
  unfold sI sA uI
  refine Prod.ext ?_ (Prod.ext rfl (Prod.ext ?_ rfl))
  · funext j
    show cond (Nat.beq j 3) w (cond (Nat.beq j 3) v (t.1 j)) = cond (Nat.beq j 3) w (t.1 j)
    cases Nat.beq j 3 <;> rfl
  · funext j
    show cond (Nat.beq j 2) L' (cond (Nat.beq j 2) L (t.2.2.1 j)) = cond (Nat.beq j 2) L' (t.2.2.1 j)
    cases Nat.beq j 2 <;> rfl
def hq_Z (a : Nat) : Nat := (hm_bc (nI a)).toNatClampNeg
theorem hq_Z_at (a : Nat) : hq_Z a < 64 ∧ hm_bc (nI a) = nI (hq_Z a) := by
  obtain ⟨j, hj, e⟩ := hm_bc_lt (nI a)
  unfold hq_Z
  rw [e, nI_clamp (by omega)]
  exact ⟨hj, rfl⟩
theorem hq_sum_bump {g g' : Nat → Nat} {a : Nat} : ∀ n : Nat, a < n → g' a = g a + 1 → (∀ j, j < n → j ≠ a → g' j = g j) → hm_sum g' n = hm_sum g n + 1 := by
  intro n
  induction n with
  | zero => intro h; omega
  | succ n ih =>
    intro h e h2
    show hm_sum g' n + g' n = hm_sum g n + g n + 1
    by_cases x : a = n
    · subst x
      have u : hm_sum g' a = hm_sum g a := hq_sum_eq a (fun j hj => h2 j (by omega) (by omega))
      omega
    · have u := ih (by omega) e (fun j hj ne => h2 j (by omega) ne)
      have v := h2 n (by omega) (by omega)
      omega
def hq_before (s a x : Nat) : Prop := 1 ≤ hq_Z x ∧ (hq_Z x < s ∨ (hq_Z x = s ∧ x < a))
noncomputable def hq_c (B : Nat → Int32) (s a : Nat) : Nat := hm_sum (fun x => hq_sel (B (x + 1) ≠ 0 ∧ hq_before s a (x + 1)) 1) 255
theorem hq_c_yes {B : Nat → Int32} {s a : Nat} (ha : 0 < a) (ha2 : a < 256) (hs : 1 ≤ s) (hB : B a ≠ 0) (hz : hq_Z a = s) : hq_c B s (a + 1) = hq_c B s a + 1 := by
  refine hq_sum_bump (a := a - 1) 255 (by omega) ?_ (fun j hj ne => ?_)
  · show hq_sel (B (a - 1 + 1) ≠ 0 ∧ hq_before s (a + 1) (a - 1 + 1)) 1 = hq_sel (B (a - 1 + 1) ≠ 0 ∧ hq_before s a (a - 1 + 1)) 1 + 1
    rw [show a - 1 + 1 = a by omega, hq_sel1 ⟨hB, by omega, Or.inr ⟨hz, by omega⟩⟩, hq_sel0 (fun w => w.2.2.elim (fun q => absurd q (by omega)) (fun q => absurd q.2 (by omega)))]
  · show hq_sel (B (j + 1) ≠ 0 ∧ hq_before s (a + 1) (j + 1)) 1 = hq_sel (B (j + 1) ≠ 0 ∧ hq_before s a (j + 1)) 1
    by_cases x : B (j + 1) ≠ 0 ∧ hq_before s a (j + 1)
    · rw [hq_sel1 x, hq_sel1 ⟨x.1, x.2.1, x.2.2.elim Or.inl (fun q => Or.inr ⟨q.1, by omega⟩)⟩]
    · rw [hq_sel0 x, hq_sel0 (fun w => x ⟨w.1, w.2.1, w.2.2.elim Or.inl (fun q => Or.inr ⟨q.1, by omega⟩)⟩)]
theorem hq_c_no {B : Nat → Int32} {s a : Nat} (hn : ¬ (B a ≠ 0 ∧ hq_Z a = s)) : hq_c B s (a + 1) = hq_c B s a := by
  refine hq_sum_eq 255 (fun j hj => ?_)
  show hq_sel (B (j + 1) ≠ 0 ∧ hq_before s (a + 1) (j + 1)) 1 = hq_sel (B (j + 1) ≠ 0 ∧ hq_before s a (j + 1)) 1
  by_cases x : B (j + 1) ≠ 0 ∧ hq_before s a (j + 1)
  · rw [hq_sel1 x, hq_sel1 ⟨x.1, x.2.1, x.2.2.elim Or.inl (fun q => Or.inr ⟨q.1, by omega⟩)⟩]
  · refine (hq_sel0 (fun w => ?_)).trans (hq_sel0 x).symm
    rcases w.2.2 with q | ⟨q1, q2⟩
    · exact x ⟨w.1, w.2.1, Or.inl q⟩
    · by_cases y : j + 1 = a
      · exact hn ⟨y ▸ w.1, y ▸ q1⟩
      · exact x ⟨w.1, w.2.1, Or.inr ⟨q1, by omega⟩⟩
theorem hq_c_next {B : Nat → Int32} {s : Nat} : hq_c B (s + 1) 1 = hq_c B s 256 := by
  refine hq_sum_eq 255 (fun j hj => ?_)
  show hq_sel (B (j + 1) ≠ 0 ∧ hq_before (s + 1) 1 (j + 1)) 1 = hq_sel (B (j + 1) ≠ 0 ∧ hq_before s 256 (j + 1)) 1
  by_cases x : B (j + 1) ≠ 0 ∧ hq_before s 256 (j + 1)
  · rw [hq_sel1 x, hq_sel1 ⟨x.1, x.2.1, Or.inl (x.2.2.elim (fun q => by omega) (fun q => by omega))⟩]
  · refine (hq_sel0 (fun w => x ⟨w.1, w.2.1, ?_⟩)).trans (hq_sel0 x).symm
    rcases w.2.2 with q | ⟨_, q⟩
    · by_cases y : hq_Z (j + 1) < s
      · exact Or.inl y
      · exact Or.inr ⟨by omega, by omega⟩
    · omega
theorem hq_c_lt {B : Nat → Int32} {s a : Nat} (ha : 0 < a) (ha2 : a < 256) (hB : B a ≠ 0) (hz : hq_Z a = s) : hq_c B s a < hq_N B 255 := by
  refine hm_sum_lt 255 (a - 1) (by omega) ?_ (fun j _ => ?_)
  · show hq_sel (B (a - 1 + 1) ≠ 0 ∧ hq_before s a (a - 1 + 1)) 1 < (if B (a - 1 + 1) = 0 then 0 else 1)
    rw [show a - 1 + 1 = a by omega, hq_sel0 (fun w => w.2.2.elim (fun q => absurd q (by omega)) (fun q => absurd q.2 (by omega))), if_neg hB]
    exact Nat.zero_lt_one
  · show hq_sel (B (j + 1) ≠ 0 ∧ hq_before s a (j + 1)) 1 ≤ (if B (j + 1) = 0 then 0 else 1)
    by_cases x : B (j + 1) = 0
    · rw [hq_sel0 (fun w => w.1 x)]; exact Nat.zero_le _
    · rw [if_neg x]; exact hq_sel_le _ _
theorem hq_c_le {B : Nat → Int32} {s a : Nat} : hq_c B s a ≤ hq_N B 255 := by
  refine hm_sum_le 255 (fun j _ => ?_)
  show hq_sel (B (j + 1) ≠ 0 ∧ hq_before s a (j + 1)) 1 ≤ (if B (j + 1) = 0 then 0 else 1)
  by_cases x : B (j + 1) = 0
  · rw [hq_sel0 (fun w => w.1 x)]; exact Nat.zero_le _
  · rw [if_neg x]; exact hq_sel_le _ _
theorem hq_c_0 {B : Nat → Int32} : hq_c B 1 1 = 0 := by
  have e : hq_c B 1 1 = hm_sum (fun _ => 0) 255 := by
    refine hq_sum_eq 255 (fun j hj => ?_)
    exact hq_sel0 (fun w => w.2.2.elim (fun q => absurd w.2.1 (by omega)) (fun q => absurd q.2 (by omega)))
  rw [e, hq_sum0]
/-- what is numbered so far: all told ones that come before, in order of size -/
def hq_JN (B : Nat → Int32) (s a : Nat) (L : Nat → Int32) (c : Nat) : Prop :=
  c = hq_c B s a ∧ (∀ k, k < c → ∃ x, 0 < x ∧ x < 256 ∧ L k = nI x ∧ B x ≠ 0 ∧ hq_before s a x) ∧
  (∀ j k x y, j < k → k < c → x < 256 → y < 256 → L j = nI x → L k = nI y → hq_Z x ≤ hq_Z y) ∧
  (∀ x, 0 < x → x < 256 → B x ≠ 0 → hq_before s a x → ∃ k, k < c ∧ L k = nI x)
theorem hq_JN_yes {B : Nat → Int32} {s a c : Nat} {L : Nat → Int32} (h : hq_JN B s a L c) (ha : 0 < a) (ha2 : a < 256) (hs : 1 ≤ s) (hB : B a ≠ 0) (hz : hq_Z a = s) : hq_JN B s (a + 1) (upd L c (nI a)) (c + 1) := by
  obtain ⟨h1, h2, h3, h4⟩ := h
  have wk : ∀ x, hq_before s a x → hq_before s (a + 1) x := fun x w => ⟨w.1, w.2.elim Or.inl (fun q => Or.inr ⟨q.1, by omega⟩)⟩
  refine ⟨by rw [hq_c_yes ha ha2 hs hB hz, h1], fun k hk => ?_, fun j k x y jk hk hx hy ej ek => ?_, fun x x0 x1 bx bf => ?_⟩
  · by_cases z : k = c
    · exact ⟨a, ha, ha2, if_pos z, hB, by omega, Or.inr ⟨hz, by omega⟩⟩
    · obtain ⟨x, a1, a2, a3, a4, a5⟩ := h2 k (by omega)
      exact ⟨x, a1, a2, (if_neg z).trans a3, a4, wk x a5⟩
  · have ej : L j = nI x := (show upd L c (nI a) j = L j from if_neg (by omega)).symm.trans ej
    by_cases z : k = c
    · have ek : nI a = nI y := (show upd L c (nI a) k = nI a from if_pos z).symm.trans ek
      have ya := (nI_eq (by omega) (by omega)).mp ek
      obtain ⟨x', a1, a2, a3, a4, a5⟩ := h2 j (by omega)
      have xx := (nI_eq (by omega) (by omega)).mp (ej.symm.trans a3)
      rw [← ya, xx, hz]
      rcases a5.2 with q | q
      · omega
      · omega
    · have ek : L k = nI y := (show upd L c (nI a) k = L k from if_neg z).symm.trans ek
      exact h3 j k x y jk (by omega) hx hy ej ek
  · by_cases z : x = a
    · exact ⟨c, by omega, by rw [z]; exact if_pos rfl⟩
    · have bf' : hq_before s a x := ⟨bf.1, bf.2.elim Or.inl (fun q => Or.inr ⟨q.1, by omega⟩)⟩
      obtain ⟨k, k1, k2⟩ := h4 x x0 x1 bx bf'
      exact ⟨k, by omega, (if_neg (by omega)).trans k2⟩
theorem hq_JN_no {B : Nat → Int32} {s a c : Nat} {L : Nat → Int32} (h : hq_JN B s a L c) (hn : ¬ (B a ≠ 0 ∧ hq_Z a = s)) : hq_JN B s (a + 1) L c := by
  obtain ⟨h1, h2, h3, h4⟩ := h
  refine ⟨by rw [hq_c_no hn, h1], fun k hk => ?_, h3, fun x x0 x1 bx bf => ?_⟩
  · obtain ⟨x, a1, a2, a3, a4, a5⟩ := h2 k hk
    exact ⟨x, a1, a2, a3, a4, a5.1, a5.2.elim Or.inl (fun q => Or.inr ⟨q.1, by omega⟩)⟩
  · refine h4 x x0 x1 bx ⟨bf.1, bf.2.elim Or.inl (fun q => Or.inr ⟨q.1, ?_⟩)⟩
    by_cases z : x = a
    · exact absurd ⟨z ▸ bx, z ▸ q.1⟩ hn
    · omega
theorem hq_JN_next {B : Nat → Int32} {s c : Nat} {L : Nat → Int32} (h : hq_JN B s 256 L c) : hq_JN B (s + 1) 1 L c := by
  obtain ⟨h1, h2, h3, h4⟩ := h
  refine ⟨by rw [hq_c_next, h1], fun k hk => ?_, h3, fun x x0 x1 bx bf => ?_⟩
  · obtain ⟨x, a1, a2, a3, a4, a5⟩ := h2 k hk
    exact ⟨x, a1, a2, a3, a4, a5.1, Or.inl (a5.2.elim (fun q => by omega) (fun q => by omega))⟩
  · refine h4 x x0 x1 bx ⟨bf.1, ?_⟩
    rcases bf.2 with q | q
    · by_cases y : hq_Z x < s
      · exact Or.inl y
      · exact Or.inr ⟨by omega, x1⟩
    · omega
theorem hq_num_in {t : XT} {s : Nat} {B : Nat → Int32} {lj : Nat → Int64} {Q : XT → Prop} (hB : t.2.2.1 1 = B) (hN : hq_N B 255 ≤ 60) (hs : 1 ≤ s) (hs5 : s ≤ 5) (M : Nat) (hM : 20 ≤ M)
    (cont : ∀ (K' c : Nat) (L li' : Nat → Int32), M ≤ K' → li' 1 = nI (s + 1) → hq_JN B (s + 1) 1 L c → wpX12_numbers K' 1 (hq_nm t L c) li' lj Q) :
    ∀ (d a K c : Nat) (L li : Nat → Int32), a + d = 256 → 0 < a → 3 * d + M + 1 ≤ K → li 1 = nI s → li 2 = nI a → hq_JN B s a L c → wpX12_numbers K 2 (hq_nm t L c) li lj Q := by
  intro d
  induction d with
  | zero =>
    intro a K c L li hd ha hK e1 e2 hJ
    obtain ⟨K, rfl⟩ : ∃ K', K = K' + 1 := ⟨K - 1, by omega⟩
    obtain rfl : a = 256 := by omega
    show wbX12_numbers_2 (wpX12_numbers K) K (hq_nm t L c) li lj Q
    refine ⟨fun _ v4 e4 => cont K c L _ (by omega) (by show v4 = _; rw [e4, e1]; exact hs_inc s) (hq_JN_next hJ), fun x => absurd (show nI 256 ≤ li 2 by rw [e2]; exact nI_le (by omega) (by omega)) x⟩
  | succ d ih =>
    intro a K c L li hd ha hK e1 e2 hJ
    obtain ⟨K, rfl⟩ : ∃ K', K = K' + 2 := ⟨K - 2, by omega⟩
    have ca : (nI a).toNatClampNeg = a := nI_clamp (by omega)
    have nx : ∀ (c' : Nat) (L' : Nat → Int32), hq_JN B s (a + 1) L' c' → wpX12_numbers (K + 1) 3 (hq_nm t L' c') li lj Q := by
      intro c' L' hJ'
      show wbX12_numbers_3 (wpX12_numbers K) K (hq_nm t L' c') li lj Q
      intro v e
      exact ih (a + 1) K c' L' _ (by omega) (by omega) (by omega) e1 (by show v = _; rw [e, e2]; exact hs_inc a) hJ'
    show wbX12_numbers_2 (wpX12_numbers (K + 1)) (K + 1) (hq_nm t L c) li lj Q
    unfold wbX12_numbers_2
    rw [e1, e2]
    refine ⟨fun x => absurd (show nI 256 ≤ nI a from x) (nI_ge (by omega) (by omega)), fun _ => ⟨vp_in_nI (by omega) (by decide), fun v5 e5 => ?_⟩⟩
    have e5 : v5 = B a := by
      rw [e5, ca]
      show t.2.2.1 1 a = _
      rw [hB]
    refine ⟨fun z => nx c L (hq_JN_no hJ (fun w => w.1 (e5.symm.trans z))), fun z => hm_bitCount (by omega) ⟨fun ne => nx c L (hq_JN_no hJ (fun w => ne ?_)), fun eq => ?_⟩⟩
    · rw [(hq_Z_at a).2, w.2]
    · have hz : hq_Z a = s := by
        rw [(hq_Z_at a).2] at eq
        exact (nI_eq (by have := (hq_Z_at a).1; omega) (by omega)).mp eq
      have ba : B a ≠ 0 := fun q => z (e5.trans q)
      have lt : c < 60 := by
        have := hq_c_lt ha (by omega) ba hz
        rw [← hJ.1] at this
        omega
      have cc : (nI c).toNatClampNeg = c := nI_clamp (by omega)
      refine ⟨vp_in_nI (n := c) lt (by decide), fun t9 e9 v10 e10 t11 e11 => ?_⟩
      have e10 : v10 = nI (c + 1) := by rw [e10, e9]; exact nI_1 c
      have e11 : t11 = hq_nm t (upd L c (nI a)) (c + 1) := by
        rw [e11, e10, e9]
        show sI (sA (sI (sA t 2 L) 3 (nI c)) 2 (upd L (nI c).toNatClampNeg (nI a))) 3 (nI (c + 1)) = _
        rw [hq_nm_put, cc]; rfl
      rw [e11]
      exact nx (c + 1) _ (hq_JN_yes hJ ha (by omega) hs ba hz)
theorem hq_num_out {t : XT} {B : Nat → Int32} {lj : Nat → Int64} {Q : XT → Prop} (hB : t.2.2.1 1 = B) (hN : hq_N B 255 ≤ 60) (M : Nat) (hM : 20 ≤ M)
    (cont : ∀ (K' c : Nat) (L li' : Nat → Int32), M ≤ K' → li' 1 = nI 0 → hq_JN B 6 1 L c → wpX12_numbers K' 4 (hq_nm t L c) li' lj Q) :
    ∀ (d s K c : Nat) (L li : Nat → Int32), s + d = 6 → 1 ≤ s → 800 * d + M + 1 ≤ K → li 1 = nI s → hq_JN B s 1 L c → wpX12_numbers K 1 (hq_nm t L c) li lj Q := by
  intro d
  induction d with
  | zero =>
    intro s K c L li hd hs hK e1 hJ
    obtain ⟨K, rfl⟩ : ∃ K', K = K' + 1 := ⟨K - 1, by omega⟩
    obtain rfl : s = 6 := by omega
    show wbX12_numbers_1 (wpX12_numbers K) K (hq_nm t L c) li lj Q
    exact ⟨fun _ => cont K c L _ (by omega) rfl hJ, fun x => absurd (show nI 5 < li 1 by rw [e1]; exact nI_lt (by omega) (by omega)) x⟩
  | succ d ih =>
    intro s K c L li hd hs hK e1 hJ
    obtain ⟨K, rfl⟩ : ∃ K', K = K' + 1 := ⟨K - 1, by omega⟩
    show wbX12_numbers_1 (wpX12_numbers K) K (hq_nm t L c) li lj Q
    refine ⟨fun x => absurd (show nI 5 < nI s by rw [← e1]; exact x) (nI_nlt (by omega) (by omega)), fun _ => ?_⟩
    obtain ⟨M', hM'⟩ : ∃ M', M' = 800 * d + M + 1 := ⟨_, rfl⟩
    exact hq_num_in hB hN hs (by omega) M' (by omega) (fun K' c' L' li' h1 a1 hJ' => ih (s + 1) K' c' L' li' (by omega) (by omega) (by omega) a1 hJ') 255 1 K c L _ (by omega) (by omega) (by omega) e1 rfl hJ
