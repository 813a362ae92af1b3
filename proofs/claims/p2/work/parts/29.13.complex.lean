/-! ===== complex, exactly: of the class ===== -/
theorem hrd_le {D : Nat → Int32} {y : Nat} (hy : y ≤ 160) : ∀ (d f p : Nat) (l : List Int32), p ≤ y → (hrd D y d f p l).1 = 0 → hq_N (hrT (hrd D y d f p l).2) 255 ≤ 60 := by
  intro d
  induction d with
  | zero => exact fun f p l hp h => absurd h (hre_k0 (by omega) (by omega) (by omega))
  | succ d ih =>
    intro f p l hp h
    unfold hrd at h ⊢
    have isk := hre_sk_in D (y - p) p
    obtain ⟨q, hq⟩ : ∃ q, q = hre_sk D (y - p) p := ⟨_, rfl⟩
    rw [← hq] at h isk ⊢
    obtain ⟨o, ho⟩ : ∃ o, o = hrf D y (nI f) q := ⟨_, rfl⟩
    have io := @hrf_in D y q (nI f) (by omega)
    rw [← ho] at h io ⊢
    have iw := hre_sk_in D (y - o.2.1) o.2.1
    obtain ⟨w, hw⟩ : ∃ w, w = hre_sk D (y - o.2.1) o.2.1 := ⟨_, rfl⟩
    rw [← hw] at h iw ⊢
    by_cases c1 : o.1 = 0
    · rw [if_neg (fun z => z c1)] at h ⊢
      by_cases c2 : hq_N (hrT (o.2.2 :: l)) 255 ≤ 60
      · rw [if_neg (fun z => z c2)] at h ⊢
        by_cases c3 : w = y
        · rw [if_pos c3]; exact c2
        · rw [if_neg c3] at h ⊢
          by_cases c4 : D w = 44
          · rw [if_pos c4] at h ⊢
            exact ih (f + 1) (w + 1) _ (by omega) h
          · rw [if_neg c4] at h
            exact absurd h (hre_k0 (by omega) (by omega) (by omega))
      · rw [if_pos c2] at h
        exact absurd h (hre_k0 (by omega) (by omega) (by omega))
    · rw [if_pos c1] at h
      exact absurd h c1
theorem hnD_put {B : Nat → Int32} {s a c : Nat} {L : Nat → Int32} (h : hq_JN B s a L c) (hD : hnD L c) (ha : a < 256) (hz : hq_Z a = s) : hnD (upd L c (nI a)) (c + 1) := by
  intro j k hjk hk
  rw [show upd L c (nI a) j = L j from if_neg (by omega)]
  by_cases z : k = c
  · rw [show upd L c (nI a) k = nI a from if_pos z]
    obtain ⟨x, x0, x1, x2, x3, x4⟩ := h.2.1 j (by omega)
    intro q
    have xa := (nI_eq (by omega) (by omega)).mp (x2.symm.trans q)
    subst xa
    rcases x4.2 with w | w <;> omega
  · rw [show upd L c (nI a) k = L k from if_neg z]
    exact hD j k hjk (by omega)
theorem hce_build_in {B : Nat → Int32} {d0 : Nat} {X : (Nat → Int32) × Nat} {lj : Nat → Int64} {Q : XT → Prop} (hd0 : d0 < 5) (hN : hq_N B 255 ≤ 60) (M : Nat) (hM : 200 ≤ M)
    (cont : ∀ (K' : Nat) (t' : XT) (li' : Nat → Int32), M ≤ K' → t'.2.2.1 1 = B → hcE t' X.1 X.2 → hnD X.1 X.2 → hq_JN B (d0 + 2) 1 X.1 X.2 → li' 2 = nI d0 → wpX9_build_c13 K' 4 t' li' lj Q) :
    ∀ (d i K c : Nat) (t : XT) (L li : Nat → Int32), i + d = 256 → 0 < i → 2 * d + M + 5 ≤ K → t.2.2.1 1 = B → hcE t L c → hnD L c → hq_JN B (d0 + 1) i L c → hnA B (d0 + 1) d i (L, c) = X → li 2 = nI d0 → li 3 = nI i → wpX9_build_c13 K 2 t li lj Q := by
  intro d
  induction d with
  | zero =>
    intro i K c t L li hd hi hK hB hE hD hJ hX e2 e3
    obtain ⟨K, rfl⟩ : ∃ K', K = K' + 1 := ⟨K - 1, by omega⟩
    obtain rfl : i = 256 := by omega
    have hX : (L, c) = X := hX
    subst hX
    show wbX9_build_c13_2 (wpX9_build_c13 K) K t li lj Q
    exact ⟨fun _ => cont K t li (by omega) hB hE hD (hq_JN_next hJ) e2, fun x => absurd (show nI 256 ≤ li 3 by rw [e3]; exact nI_le (by omega) (by omega)) x⟩
  | succ d ih =>
    intro i K c t L li hd hi hK hB hE hD hJ hX e2 e3
    obtain ⟨K, rfl⟩ : ∃ K', K = K' + 2 := ⟨K - 2, by omega⟩
    have ci : (nI i).toNatClampNeg = i := nI_clamp (by omega)
    have hX : hnA B (d0 + 1) d (i + 1) (if B i ≠ 0 ∧ hq_Z i = d0 + 1 then (upd L c (nI i), c + 1) else (L, c)) = X := hX
    have nx : ∀ (c' : Nat) (t' : XT) (L' : Nat → Int32), t'.2.2.1 1 = B → hcE t' L' c' → hnD L' c' → hq_JN B (d0 + 1) (i + 1) L' c' → hnA B (d0 + 1) d (i + 1) (L', c') = X → wpX9_build_c13 (K + 1) 3 t' li lj Q := by
      intro c' t' L' a1 a2 a3 a4 a5
      show wbX9_build_c13_3 (wpX9_build_c13 K) K t' li lj Q
      intro v e
      exact ih (i + 1) K c' t' L' _ (by omega) (by omega) (by omega) a1 a2 a3 a4 a5 e2 (by show v = _; rw [e, e3]; exact hs_inc i)
    have no : ¬ (B i ≠ 0 ∧ hq_Z i = d0 + 1) → wpX9_build_c13 (K + 1) 3 t li lj Q := fun w => nx c t L hB hE hD (hq_JN_no hJ w) (by rw [if_neg w] at hX; exact hX)
    have out : ¬ nI 256 ≤ nI i := nI_ge (by omega) (by omega)
    show wbX9_build_c13_2 (wpX9_build_c13 (K + 1)) (K + 1) t li lj Q
    unfold wbX9_build_c13_2
    rw [e2, e3, hE.1]
    refine ⟨fun x => absurd x out, fun _ => ⟨fun x => absurd x out, fun _ => ⟨vp_in_nI (n := i) (N := 256) (by omega) (by decide), fun v9 e9 => ?_⟩⟩⟩
    rw [ci, hB] at e9
    refine ⟨fun z => no (fun w => w.1 (e9.symm.trans z)), fun z => hm_bitCount (by omega) (fun v12 f12 => ⟨fun ne => no (fun w => ne ?_), fun q => ?_⟩)⟩
    · have f12 : v12 = nI (d0 + 1) := f12.trans (nI_1 d0)
      rw [f12, (hq_Z_at i).2, w.2]
    · have f12 : v12 = nI (d0 + 1) := f12.trans (nI_1 d0)
      have hz : hq_Z i = d0 + 1 := by
        rw [f12, (hq_Z_at i).2] at q
        exact (nI_eq (by have := (hq_Z_at i).1; omega) (by omega)).mp q
      have bi : B i ≠ 0 := fun w => z (e9.trans w)
      have lt : c < 60 := by
        have := hq_c_lt hi (by omega) bi hz
        rw [← hJ.1] at this
        omega
      rw [if_pos (show B i ≠ 0 ∧ hq_Z i = d0 + 1 from ⟨bi, hz⟩)] at hX
      refine ⟨fun x => absurd (show nI 60 ≤ nI c from x) (nI_ge (by omega) (by omega)), fun _ => ?_⟩
      exact hce_add hE hD lt (by omega) hd0 (q.trans f12) (by omega) (fun t' E' r' => nx (c + 1) t' _ (r'.trans hB) E' (hnD_put hJ hD (by omega) hz) (hq_JN_yes hJ hi (by omega) (by omega) bi hz) hX)
theorem hce_build_go {B : Nat → Int32} {X : (Nat → Int32) × Nat} {lj : Nat → Int64} {Q : XT → Prop} (hN : hq_N B 255 ≤ 60) (hQ : ∀ t', t'.2.2.1 1 = B → hcE t' X.1 X.2 → hnD X.1 X.2 → hq_JN B 6 1 X.1 X.2 → Q t') :
    ∀ (d i K c : Nat) (t : XT) (L li : Nat → Int32), i + d = 5 → 700 * d + 300 ≤ K → t.2.2.1 1 = B → hcE t L c → hnD L c → hq_JN B (i + 1) 1 L c → hnS B d (i + 1) (L, c) = X → li 2 = nI i → wpX9_build_c13 K 1 t li lj Q := by
  intro d
  induction d with
  | zero =>
    intro i K c t L li hd hK hB hE hD hJ hX e2
    obtain ⟨K, rfl⟩ : ∃ K', K = K' + 1 := ⟨K - 1, by omega⟩
    obtain rfl : i = 5 := by omega
    have hX : (L, c) = X := hX
    subst hX
    show wbX9_build_c13_1 (wpX9_build_c13 K) K t li lj Q
    exact ⟨fun _ => hQ t hB hE hD hJ, fun x => absurd (show nI 5 ≤ li 2 by rw [e2]; exact nI_le (by omega) (by omega)) x⟩
  | succ d ih =>
    intro i K c t L li hd hK hB hE hD hJ hX e2
    obtain ⟨K, rfl⟩ : ∃ K', K = K' + 1 := ⟨K - 1, by omega⟩
    have hX : hnS B d (i + 1 + 1) (hnA B (i + 1) 255 1 (L, c)) = X := hX
    obtain ⟨Y, hY⟩ : ∃ Y, Y = hnA B (i + 1) 255 1 (L, c) := ⟨_, rfl⟩
    rw [← hY] at hX
    obtain ⟨M, hM⟩ : ∃ M, M = 700 * d + 301 := ⟨_, rfl⟩
    show wbX9_build_c13_1 (wpX9_build_c13 K) K t li lj Q
    refine ⟨fun x => absurd (show nI 5 ≤ nI i by rw [← e2]; exact x) (nI_ge (by omega) (by omega)), fun _ => ?_⟩
    refine hce_build_in (d0 := i) (X := Y) (by omega) hN M (by omega) (fun K' t' li' h a1 a2 a3 a4 a5 => ?_) 255 1 K c t L _ (by omega) (by omega) (by omega) hB hE hD hJ hY.symm e2 rfl
    obtain ⟨K', rfl⟩ : ∃ K'', K' = K'' + 1 := ⟨K' - 1, by omega⟩
    show wbX9_build_c13_4 (wpX9_build_c13 K') K' t' li' lj Q
    intro v e
    exact ih (i + 1) K' Y.2 t' Y.1 _ (by omega) (by omega) a1 a2 a3 a4 hX (by show v = _; rw [e, a5]; exact hs_inc i)
theorem hce_build {t : XT} {B L0 : Nat → Int32} {X : (Nat → Int32) × Nat} {K : Nat} {Q : XT → Prop} (hB : t.2.2.1 1 = B) (hN : hq_N B 255 ≤ 60) (hX : hnS B 5 1 (L0, 0) = X) (hK : 4000 ≤ K) (hQ : ∀ t', t'.2.2.1 1 = B → hcE t' X.1 X.2 → hnD X.1 X.2 → hq_JN B 6 1 X.1 X.2 → Q t') : wqX9_build_c13 K t Q := by
  obtain ⟨K, rfl⟩ : ∃ K', K = K' + 1 := ⟨K - 1, by omega⟩
  show wbX9_build_c13_0 (wpX9_build_c13 K) K t (fun _ => 0) (fun _ => 0) Q
  intro t1 e1 t2 e2 t3 e3 t4 e4 t5 e5
  have b1 : t5.2.2.1 1 = B := by rw [e5, e4, e3, e2, e1]; exact hB
  have q0 : t5.2.2.2 0 = fun _ => 0 := by rw [e5, e4, e3]; rfl
  have q1 : t5.2.2.2 1 = fun _ => 0 := by rw [e5, e4]; rfl
  have q2 : t5.2.2.2 2 = fun _ => 0 := by rw [e5]; rfl
  refine hce_build_go hN hQ 5 0 K 0 t5 L0 _ (by omega) (by omega) b1 ⟨?_, fun k hk => absurd hk (by omega), fun k hk => absurd hk (by omega), fun a ha => ?_, fun k f => ?_, fun f k => ?_, fun d k hd => ?_⟩ (fun j k _ hk => absurd hk (by omega)) ⟨hq_c_0.symm, fun k hk => absurd hk (by omega), fun j k x y jk hk => absurd hk (by omega), fun x x0 x1 bx bf => ?_⟩ hX rfl
  · rw [e5, e4, e3, e2, e1]; rfl
  · rw [e5, e4, e3, e2]; rfl
  · rw [q0]; exact ⟨fun w => absurd ((hb_0 f).symm.trans w) (by decide), fun w => absurd w.1 (by omega)⟩
  · rw [q1]; exact ⟨fun w => absurd ((hb_0 k).symm.trans w) (by decide), fun w => absurd w.1 (by omega)⟩
  · rw [q2]; exact ⟨fun w => absurd ((hb_0 k).symm.trans w) (by decide), fun w => absurd w.1 (by omega)⟩
  · exact absurd bf (fun w => w.2.elim (fun q => absurd w.1 (by omega)) (fun q => absurd q.2 (by omega)))
theorem hce_all {t : XT} {c K : Nat} {Q : Int64 → XT → Prop} (h4 : t.1 4 = nI c) (hc : c < 64) (hK : 2 ≤ K) (h : ∀ v, (∀ k, hb v k = true ↔ k < c) → Q v t) : wqX9_all K t Q := by
  obtain ⟨K, rfl⟩ : ∃ K', K = K' + 1 := ⟨K - 1, by omega⟩
  show wbX9_all_0 (wpX9_all K) K t (fun _ => 0) (fun _ => 0) Q
  unfold wbX9_all_0
  rw [h4]
  refine hw_bit (k := c) hc (by omega) (fun r er v ev => h v (fun k => ?_))
  have p : 0 < 2 ^ c := Nat.pow_pos (by decide)
  have e : un v = 2 ^ c - 1 := by rw [ev, un_sub (by rw [un_one, er]; omega), er, un_one]
  unfold hb
  rw [e, Nat.testBit_two_pow_sub_one]
  exact decide_eq_true_iff
/-- behind complex: no PAIRS, all is THERE, nothing to UNDO, nothing kept -/
def hcP (t : XT) (c : Nat) : Prop := (∀ k, t.2.2.1 5 k = -1) ∧ (∀ k, hb (t.2.1 0) k = true ↔ k < c) ∧ t.2.1 1 = 0 ∧ t.2.1 2 = 0 ∧ t.1 8 = 0 ∧ t.2.1 6 = 0
theorem hce_complex {t : XT} {y K : Nat} {o : Int32 × List Int32} {Q : Int32 → XT → Prop} (h1 : t.1 1 = nI y) (hy : y ≤ 160) (ho : hrd (t.2.2.1 0) y 25 0 0 [] = o) (hK : 6000 ≤ K)
    (H1 : ¬ o.1 = 0 → ∀ B' p', Q (-2 - o.1) (sI (hx_st t B' (hq_N B' 255) p') 1 0))
    (H0 : o.1 = 0 → ∀ B' X t', hrz B' (hrT o.2) → hq_N B' 255 ≤ 60 → hnS B' 5 1 (t.2.2.1 2, 0) = X → hcE t' X.1 X.2 → hnD X.1 X.2 → hq_JN B' 6 1 X.1 X.2 → hcP t' X.2 → X.2 ≤ 60 → Q (nI X.2) t') : wqX11_complex K t Q := by
  obtain ⟨K, rfl⟩ : ∃ K', K = K' + 1 := ⟨K - 1, by omega⟩
  show wbX11_complex_0 (wpX11_complex K) K t (fun _ => 0) (fun _ => 0) Q
  refine hre_read h1 hy (by omega) ?_
  rw [ho]
  refine ⟨fun no B' p' t2 e2 => ⟨fun z => absurd z no, fun _ v9 e9 => ?_⟩, fun yes B' hB' t2 e2 => ⟨fun _ => ?_, fun z => absurd rfl z⟩⟩
  · rw [e9, e2]; exact H1 no B' p'
  · have n60 : hq_N B' 255 ≤ 60 := by
      rw [hrz_N hB' 255 (by decide), ← ho]
      exact hrd_le hy 25 0 0 [] (by omega) (by rw [ho]; exact yes)
    refine hce_build (B := B') (L0 := t.2.2.1 2) (by rw [e2]; rfl) n60 rfl (by omega) (fun t4 a1 a2 a3 a4 => ?_)
    have c60 : (hnS B' 5 1 (t.2.2.1 2, 0)).2 ≤ 60 := by
      have := hq_c_le (B := B') (s := 6) (a := 1)
      rw [← a4.1] at this
      omega
    refine hce_all a2.1 (by omega) (by omega) (fun v hv => ?_)
    obtain ⟨K, rfl⟩ : ∃ K', K = K' + 1 := ⟨K - 1, by omega⟩
    show wbX6_restart_0 (wpX6_restart K) K t4 (fun _ => 0) (uI (fun _ => 0) 1 v) _
    intro u1 f1 u2 f2 u3 f3 u4 f4 v5 _ u6 f6 t7 e7 t8 e8
    have e4 : t8.1 4 = nI (hnS B' 5 1 (t.2.2.1 2, 0)).2 := by rw [e8, e7, f6, f4, f3, f2, f1]; exact a2.1
    rw [e4]
    refine H0 yes B' _ t8 hB' n60 rfl ?_ a3 a4 ?_ c60
    · rw [e8, e7, f6, f4, f3, f2, f1]; exact a2
    · rw [e8, e7, f6, f4, f3, f2, f1]
      exact ⟨fun k => rfl, hv, rfl, rfl, rfl, rfl⟩
