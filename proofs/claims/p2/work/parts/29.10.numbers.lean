/-! ===== numbers, exactly: what order SIMPLICES come in (both sides) ===== -/
def hnA (B : Nat → Int32) (s : Nat) : Nat → Nat → (Nat → Int32) × Nat → (Nat → Int32) × Nat
  | 0, _, x => x
  | d + 1, a, x => hnA B s d (a + 1) (if B a ≠ 0 ∧ hq_Z a = s then (upd x.1 x.2 (nI a), x.2 + 1) else x)
def hnS (B : Nat → Int32) : Nat → Nat → (Nat → Int32) × Nat → (Nat → Int32) × Nat
  | 0, _, x => x
  | d + 1, s, x => hnS B d (s + 1) (hnA B s 255 1 x)
/-- the number of a set; none -/
def hnO (L : Nat → Int32) : Nat → Nat → Int32
  | 0, _ => -1
  | i + 1, a => if L i = nI a then nI i else hnO L i a
/-- the same list so far -/
def hnE (x y : (Nat → Int32) × Nat) : Prop := x.2 = y.2 ∧ ∀ k, k < x.2 → x.1 k = y.1 k
theorem hnA_eq {B C : Nat → Int32} (h : hrz B C) {s : Nat} : ∀ (d a : Nat) (x y : (Nat → Int32) × Nat), a + d ≤ 256 → hnE x y → hnE (hnA B s d a x) (hnA C s d a y) := by
  intro d
  induction d with
  | zero => exact fun a x y _ e => e
  | succ d ih =>
    intro a x y ha e
    refine ih (a + 1) _ _ (by omega) ?_
    have hh := h a (by omega)
    by_cases c : B a ≠ 0 ∧ hq_Z a = s
    · rw [if_pos c, if_pos ⟨hh.mp c.1, c.2⟩]
      refine ⟨congrArg (· + 1) e.1, fun k hk => ?_⟩
      show upd x.1 x.2 (nI a) k = upd y.1 y.2 (nI a) k
      have hk : k < x.2 + 1 := hk
      by_cases z : k = x.2
      · rw [show upd x.1 x.2 (nI a) k = nI a from if_pos z, show upd y.1 y.2 (nI a) k = nI a from if_pos (z.trans e.1)]
      · rw [show upd x.1 x.2 (nI a) k = x.1 k from if_neg z, show upd y.1 y.2 (nI a) k = y.1 k from if_neg (by rw [← e.1]; exact z)]
        exact e.2 k (by omega)
    · rw [if_neg c, if_neg (fun w => c ⟨hh.mpr w.1, w.2⟩)]; exact e
theorem hnS_eq {B C : Nat → Int32} (h : hrz B C) : ∀ (d s : Nat) (x y : (Nat → Int32) × Nat), hnE x y → hnE (hnS B d s x) (hnS C d s y) := by
  intro d
  induction d with
  | zero => exact fun s x y e => e
  | succ d ih => exact fun s x y e => ih (s + 1) _ _ (hnA_eq h 255 1 x y (by omega) e)
theorem hnO_eq {L M : Nat → Int32} : ∀ (i a : Nat), (∀ k, k < i → L k = M k) → hnO L i a = hnO M i a := by
  intro i
  induction i with
  | zero => exact fun _ _ => rfl
  | succ i ih =>
    intro a h
    show (if L i = nI a then nI i else hnO L i a) = (if M i = nI a then nI i else hnO M i a)
    rw [h i (by omega), ih a (fun k hk => h k (by omega))]
/-! ===== numbers, exactly: of the reference ===== -/
theorem hrn_in {t : XT} {s : Nat} {B : Nat → Int32} {X : (Nat → Int32) × Nat} {lj : Nat → Int64} {Q : XT → Prop} (hB : t.2.2.1 1 = B) (hN : hq_N B 255 ≤ 60) (hs : 1 ≤ s) (hs5 : s ≤ 5) (M : Nat) (hM : 20 ≤ M)
    (cont : ∀ (K' : Nat) (li' : Nat → Int32), M ≤ K' → li' 1 = nI (s + 1) → hq_JN B (s + 1) 1 X.1 X.2 → wpX12_numbers K' 1 (hq_nm t X.1 X.2) li' lj Q) :
    ∀ (d a K c : Nat) (L li : Nat → Int32), a + d = 256 → 0 < a → 3 * d + M + 1 ≤ K → li 1 = nI s → li 2 = nI a → hq_JN B s a L c → hnA B s d a (L, c) = X → wpX12_numbers K 2 (hq_nm t L c) li lj Q := by
  intro d
  induction d with
  | zero =>
    intro a K c L li hd ha hK e1 e2 hJ hX
    obtain ⟨K, rfl⟩ : ∃ K', K = K' + 1 := ⟨K - 1, by omega⟩
    obtain rfl : a = 256 := by omega
    have hX : (L, c) = X := hX
    subst hX
    show wbX12_numbers_2 (wpX12_numbers K) K (hq_nm t L c) li lj Q
    refine ⟨fun _ v4 e4 => cont K _ (by omega) (by show v4 = _; rw [e4, e1]; exact hs_inc s) (hq_JN_next hJ), fun x => absurd (show nI 256 ≤ li 2 by rw [e2]; exact nI_le (by omega) (by omega)) x⟩
  | succ d ih =>
    intro a K c L li hd ha hK e1 e2 hJ hX
    obtain ⟨K, rfl⟩ : ∃ K', K = K' + 2 := ⟨K - 2, by omega⟩
    have ca : (nI a).toNatClampNeg = a := nI_clamp (by omega)
    have hX : hnA B s d (a + 1) (if B a ≠ 0 ∧ hq_Z a = s then (upd L c (nI a), c + 1) else (L, c)) = X := hX
    have nx : ∀ (c' : Nat) (L' : Nat → Int32), hq_JN B s (a + 1) L' c' → hnA B s d (a + 1) (L', c') = X → wpX12_numbers (K + 1) 3 (hq_nm t L' c') li lj Q := by
      intro c' L' hJ' hX'
      show wbX12_numbers_3 (wpX12_numbers K) K (hq_nm t L' c') li lj Q
      intro v e
      exact ih (a + 1) K c' L' _ (by omega) (by omega) (by omega) e1 (by show v = _; rw [e, e2]; exact hs_inc a) hJ' hX'
    have no : ¬ (B a ≠ 0 ∧ hq_Z a = s) → wpX12_numbers (K + 1) 3 (hq_nm t L c) li lj Q := fun w => nx c L (hq_JN_no hJ w) (by rw [if_neg w] at hX; exact hX)
    show wbX12_numbers_2 (wpX12_numbers (K + 1)) (K + 1) (hq_nm t L c) li lj Q
    unfold wbX12_numbers_2
    rw [e1, e2]
    refine ⟨fun x => absurd (show nI 256 ≤ nI a from x) (nI_ge (by omega) (by omega)), fun _ => ⟨vp_in_nI (by omega) (by decide), fun v5 e5 => ?_⟩⟩
    have e5 : v5 = B a := by
      rw [e5, ca]
      show t.2.2.1 1 a = _
      rw [hB]
    refine ⟨fun z => no (fun w => w.1 (e5.symm.trans z)), fun z => hm_bitCount (by omega) ⟨fun ne => no (fun w => ne ?_), fun eq => ?_⟩⟩
    · rw [(hq_Z_at a).2, w.2]
    · have hz : hq_Z a = s := by
        rw [(hq_Z_at a).2] at eq
        exact (nI_eq (by have := (hq_Z_at a).1; omega) (by omega)).mp eq
      have ba : B a ≠ 0 := fun q => z (e5.trans q)
      have lt : c < 60 := by
        have := hq_c_lt ha (by omega) ba hz
        rw [← hJ.1] at this
        omega
      have cc : (nI c).toNatClampNeg = c := nI_clamp (by omega)
      refine ⟨vp_in_nI (n := c) lt (by decide), fun t9 e9 v10 e10 t11 e11 => ?_⟩
      have e10 : v10 = nI (c + 1) := by rw [e10, e9]; exact nI_1 c
      have e11 : t11 = hq_nm t (upd L c (nI a)) (c + 1) := by
        rw [e11, e10, e9]
        show sI (sA (sI (sA t 2 L) 3 (nI c)) 2 (upd L (nI c).toNatClampNeg (nI a))) 3 (nI (c + 1)) = _
        rw [hq_nm_put, cc]; rfl
      rw [e11]
      rw [if_pos (show B a ≠ 0 ∧ hq_Z a = s from ⟨ba, hz⟩)] at hX
      exact nx (c + 1) _ (hq_JN_yes hJ ha (by omega) hs ba hz) hX
theorem hrn_out {t : XT} {B : Nat → Int32} {X : (Nat → Int32) × Nat} {lj : Nat → Int64} {Q : XT → Prop} (hB : t.2.2.1 1 = B) (hN : hq_N B 255 ≤ 60) (M : Nat) (hM : 20 ≤ M)
    (cont : ∀ (K' : Nat) (li' : Nat → Int32), M ≤ K' → li' 1 = nI 0 → hq_JN B 6 1 X.1 X.2 → wpX12_numbers K' 4 (hq_nm t X.1 X.2) li' lj Q) :
    ∀ (d s K c : Nat) (L li : Nat → Int32), s + d = 6 → 1 ≤ s → 800 * d + M + 1 ≤ K → li 1 = nI s → hq_JN B s 1 L c → hnS B d s (L, c) = X → wpX12_numbers K 1 (hq_nm t L c) li lj Q := by
  intro d
  induction d with
  | zero =>
    intro s K c L li hd hs hK e1 hJ hX
    obtain ⟨K, rfl⟩ : ∃ K', K = K' + 1 := ⟨K - 1, by omega⟩
    obtain rfl : s = 6 := by omega
    have hX : (L, c) = X := hX
    subst hX
    show wbX12_numbers_1 (wpX12_numbers K) K (hq_nm t L c) li lj Q
    exact ⟨fun _ => cont K _ (by omega) rfl hJ, fun x => absurd (show nI 5 < li 1 by rw [e1]; exact nI_lt (by omega) (by omega)) x⟩
  | succ d ih =>
    intro s K c L li hd hs hK e1 hJ hX
    obtain ⟨K, rfl⟩ : ∃ K', K = K' + 1 := ⟨K - 1, by omega⟩
    have hX : hnS B d (s + 1) (hnA B s 255 1 (L, c)) = X := hX
    show wbX12_numbers_1 (wpX12_numbers K) K (hq_nm t L c) li lj Q
    refine ⟨fun x => absurd (show nI 5 < nI s by rw [← e1]; exact x) (nI_nlt (by omega) (by omega)), fun _ => ?_⟩
    obtain ⟨M', hM'⟩ : ∃ M', M' = 800 * d + M + 1 := ⟨_, rfl⟩
    obtain ⟨Y, hY⟩ : ∃ Y, Y = hnA B s 255 1 (L, c) := ⟨_, rfl⟩
    rw [← hY] at hX
    exact hrn_in (X := Y) hB hN hs (by omega) M' (by omega) (fun K' li' h1 a1 hJ' => ih (s + 1) K' Y.2 Y.1 li' (by omega) (by omega) (by omega) a1 hJ' hX) 255 1 K c L _ (by omega) (by omega) (by omega) e1 rfl hJ hY.symm
def hrn_C5 (i : Nat) (L C P G : Nat → Int32) : Prop := (∀ a, a < 256 → C a = hnO L i a) ∧ (∀ k, k < i → P k = -1) ∧ (∀ k, k < i → G k = 0)
theorem hrn_num5 {T : XT} {c : Nat} {L : Nat → Int32} {lj : Nat → Int64} {Q : XT → Prop} (hc : T.1 3 = nI c) (hc60 : c ≤ 60) (hL : T.2.2.1 2 = L) (hx : ∀ k, k < c → ∃ x, x < 256 ∧ L k = nI x) (M : Nat)
    (cont : ∀ (K' : Nat) (C P G li' : Nat → Int32), M ≤ K' → li' 1 = nI 0 → hrn_C5 c L C P G → wpX12_numbers K' 6 (sA (sA (sA T 3 C) 4 P) 5 G) li' lj Q) :
    ∀ (d i K : Nat) (C P G li : Nat → Int32), i + d = c → d + M + 1 ≤ K → li 1 = nI i → hrn_C5 i L C P G → wpX12_numbers K 5 (sA (sA (sA T 3 C) 4 P) 5 G) li lj Q := by
  intro d
  induction d with
  | zero =>
    intro i K C P G li hd hK e1 h5
    obtain ⟨K, rfl⟩ : ∃ K', K = K' + 1 := ⟨K - 1, by omega⟩
    obtain rfl : i = c := by omega
    show wbX12_numbers_5 (wpX12_numbers K) K (sA (sA (sA T 3 C) 4 P) 5 G) li lj Q
    exact ⟨fun _ => cont K C P G _ (by omega) rfl h5, fun x => absurd (show T.1 3 ≤ li 1 by rw [hc, e1]; exact nI_le (by omega) (by omega)) x⟩
  | succ d ih =>
    intro i K C P G li hd hK e1 h5
    obtain ⟨K, rfl⟩ : ∃ K', K = K' + 1 := ⟨K - 1, by omega⟩
    have ci : (nI i).toNatClampNeg = i := nI_clamp (by omega)
    obtain ⟨x, x1, x2⟩ := hx i (by omega)
    have cx : (nI x).toNatClampNeg = x := nI_clamp (by omega)
    show wbX12_numbers_5 (wpX12_numbers K) K (sA (sA (sA T 3 C) 4 P) 5 G) li lj Q
    unfold wbX12_numbers_5
    rw [e1]
    refine ⟨fun y => absurd (show T.1 3 ≤ nI i from y) (by rw [hc]; exact nI_ge (by omega) (by omega)), fun _ => ⟨vp_in_nI (by omega) (by decide), fun v17 e17 => ?_⟩⟩
    have e17 : v17 = nI x := by
      rw [e17, ci]
      show T.2.2.1 2 i = _
      rw [hL]; exact x2
    subst e17
    refine ⟨vp_in_nI x1 (by decide), fun t18 e18 => ⟨vp_in_nI (by omega) (by decide), fun t19 e19 => ⟨vp_in_nI (by omega) (by decide), fun t20 e20 v21 e21 => ?_⟩⟩⟩
    rw [cx, hq_n53] at e18
    have e18 : t18 = sA (sA (sA T 3 (upd C x (nI i))) 4 P) 5 G := e18
    rw [ci, e18, hq_n54] at e19
    have e19 : t19 = sA (sA (sA T 3 (upd C x (nI i))) 4 (upd P i (-1))) 5 G := e19
    rw [ci, e19, hm_sAA] at e20
    have e20 : t20 = sA (sA (sA T 3 (upd C x (nI i))) 4 (upd P i (-1))) 5 (upd G i 0) := e20
    rw [e20]
    obtain ⟨a1, a3, a4⟩ := h5
    refine ih (i + 1) K _ _ _ _ (by omega) (by omega) (e21.trans (hs_inc i)) ⟨fun a ha => ?_, fun k hk => ?_, fun k hk => ?_⟩
    · show upd C x (nI i) a = if L i = nI a then nI i else hnO L i a
      by_cases z : a = x
      · rw [show upd C x (nI i) a = nI i from if_pos z, if_pos (show L i = nI a by rw [z]; exact x2)]
      · rw [show upd C x (nI i) a = C a from if_neg z, if_neg (fun q => z ((nI_eq (by omega) (by omega)).mp (q.symm.trans x2)))]
        exact a1 a ha
    · by_cases z : k = i
      · exact if_pos z
      · exact (if_neg z).trans (a3 k (by omega))
    · by_cases z : k = i
      · exact if_pos z
      · exact (if_neg z).trans (a4 k (by omega))
theorem hrn_num6 {U : XT} {lj : Nat → Int64} {Q : XT → Prop} (hQ : ∀ H : Nat → Int32, (∀ k, k < 3 → H k = 0) → Q (sI (sA U 14 H) 4 0)) :
    ∀ (d i K : Nat) (H li : Nat → Int32), i + d = 3 → d + 1 ≤ K → li 1 = nI i → (∀ k, k < i → H k = 0) → wpX12_numbers K 6 (sA U 14 H) li lj Q := by
  intro d
  induction d with
  | zero =>
    intro i K H li hd hK e1 hH
    obtain ⟨K, rfl⟩ : ∃ K', K = K' + 1 := ⟨K - 1, by omega⟩
    obtain rfl : i = 3 := by omega
    show wbX12_numbers_6 (wpX12_numbers K) K (sA U 14 H) li lj Q
    exact ⟨fun _ t23 e23 => by rw [e23]; exact hQ H hH, fun x => absurd (show nI 3 ≤ li 1 by rw [e1]; exact nI_le (by omega) (by omega)) x⟩
  | succ d ih =>
    intro i K H li hd hK e1 hH
    obtain ⟨K, rfl⟩ : ∃ K', K = K' + 1 := ⟨K - 1, by omega⟩
    have ci : (nI i).toNatClampNeg = i := nI_clamp (by omega)
    show wbX12_numbers_6 (wpX12_numbers K) K (sA U 14 H) li lj Q
    unfold wbX12_numbers_6
    rw [e1]
    refine ⟨fun x => absurd (show nI 3 ≤ nI i from x) (nI_ge (by omega) (by omega)), fun _ => ⟨vp_in_nI (by omega) (by decide), fun t24 e24 v25 e25 => ?_⟩⟩
    rw [hm_sAA, ci] at e24
    have e24 : t24 = sA U 14 (upd H i (vp_nar .boolean 0)) := e24
    rw [e24]
    refine ih (i + 1) K _ _ (by omega) (by omega) (e25.trans (hs_inc i)) (fun k hk => ?_)
    by_cases z : k = i
    · exact (if_pos z).trans (by decide)
    · exact (if_neg z).trans (hH k (by omega))
theorem hrn_numbers {t : XT} {B : Nat → Int32} {X : (Nat → Int32) × Nat} {K : Nat} {Q : XT → Prop} (hB : t.2.2.1 1 = B) (hN : hq_N B 255 ≤ 60) (hX : hnS B 5 1 (t.2.2.1 2, 0) = X) (hK : 6000 ≤ K)
    (hQ : ∀ t', X.2 ≤ 60 → hq_JN B 6 1 X.1 X.2 → t'.1 3 = nI X.2 → t'.2.2.1 2 = X.1 → (∀ a, a < 256 → t'.2.2.1 3 a = hnO X.1 X.2 a) → (∀ k, k < X.2 → t'.2.2.1 4 k = -1) → (∀ k, k < X.2 → t'.2.2.1 5 k = 0) → t'.1 4 = 0 → (∀ k, k < 3 → t'.2.2.1 14 k = 0) → Q t') : wqX12_numbers K t Q := by
  obtain ⟨K, rfl⟩ : ∃ K', K = K' + 1 := ⟨K - 1, by omega⟩
  show wbX12_numbers_0 (wpX12_numbers K) K t (fun _ => 0) (fun _ => 0) Q
  intro t1 e1
  have e1 : t1 = hq_nm t (t.2.2.1 2) 0 := by
    rw [e1]
    show sI t 3 0 = sI (sA t 2 (t.2.2.1 2)) 3 (nI 0)
    rw [hm_sA0]; rfl
  rw [e1]
  obtain ⟨M, hM⟩ : ∃ M, M = 500 := ⟨_, rfl⟩
  refine hrn_out (X := X) hB hN M (by omega) (fun K' li' h1 b1 hJ => ?_) 5 1 K 0 _ _ (by omega) (by omega) (by omega) rfl ⟨hq_c_0.symm, fun k hk => absurd hk (by omega), fun j k x y jk hk => absurd hk (by omega), fun x x0 x1 bx bf => ?_⟩ hX
  · have c60 : X.2 ≤ 60 := by
      have := hq_c_le (B := B) (s := 6) (a := 1)
      rw [← hJ.1] at this
      omega
    obtain ⟨M2, hM2⟩ : ∃ M2, M2 = 100 := ⟨_, rfl⟩
    have g := hq_num4 (T := hq_nm t X.1 X.2) (lj := fun _ => 0) (Q := Q) M2 (fun K2 C li2 h2 b2 hC => ?_) 256 0 K' ((hq_nm t X.1 X.2).2.2.1 3) li' (by omega) (by omega) b1 (fun a ha => absurd ha (by omega))
    · rw [hm_sA0] at g
      exact g
    · have g2 := hrn_num5 (T := hq_nm t X.1 X.2) (c := X.2) (L := X.1) (lj := fun _ => 0) (Q := Q) rfl c60 rfl (fun k hk => by obtain ⟨x, _, a2, a3, _⟩ := hJ.2.1 k hk; exact ⟨x, a2, a3⟩) 20 (fun K3 C3 P3 G3 li3 h3 b3 h5 => ?_) X.2 0 K2 C ((hq_nm t X.1 X.2).2.2.1 4) ((hq_nm t X.1 X.2).2.2.1 5) li2 (by omega) (by omega) b2 ⟨fun a ha => hC a ha, fun k hk => absurd hk (by omega), fun k hk => absurd hk (by omega)⟩
      · have z1 : sA (sA (hq_nm t X.1 X.2) 3 C) 4 ((hq_nm t X.1 X.2).2.2.1 4) = sA (hq_nm t X.1 X.2) 3 C := hm_sA0 (sA (hq_nm t X.1 X.2) 3 C) 4
        have z2 : sA (sA (hq_nm t X.1 X.2) 3 C) 5 ((hq_nm t X.1 X.2).2.2.1 5) = sA (hq_nm t X.1 X.2) 3 C := hm_sA0 (sA (hq_nm t X.1 X.2) 3 C) 5
        rw [z1, z2] at g2
        exact g2
      · have g3 := hrn_num6 (U := sA (sA (sA (hq_nm t X.1 X.2) 3 C3) 4 P3) 5 G3) (lj := fun _ => 0) (Q := Q) (fun H hH => ?_) 3 0 K3 ((sA (sA (sA (hq_nm t X.1 X.2) 3 C3) 4 P3) 5 G3).2.2.1 14) li3 (by omega) (by omega) b3 (fun k hk => absurd hk (by omega))
        · rw [hm_sA0] at g3
          exact g3
        · exact hQ _ c60 hJ rfl rfl h5.1 h5.2.1 h5.2.2 rfl hH
  · exact absurd bf (fun w => w.2.elim (fun q => absurd w.1 (by omega)) (fun q => absurd q.2 (by omega)))
