/-! ===== the class: HEIGHTS' order exactly, over less ===== -/
def hy_t (t : XT) (m : Nat) : Prop := t.1 4 = nI m ∧ m ≤ 60 ∧ ∀ k, k < 64 → hx_p (t.2.2.1 5 k)
theorem hy_give_go {m o0 : Nat} {w th : Int64} {P : Nat → Int32} {F : Nat → Int64} {t0 : XT} {Q : Int64 → XT → Prop} (hw1 : ∀ x, x < 64 → hb w x = true → hb th x = true) (hPF : t0.2.2.1 5 = P ∧ t0.2.2.2 0 = F)
    (hQ : ∀ v t' o g, hy_t t' m → ht_fr t0 t' → t'.1 7 = t0.1 7 → o0 ≤ o → o ≤ 64 → t'.1 6 = nI o → (∀ j, j < o → t'.2.2.1 7 j = nI (g j)) → ht_ok th (ht_s P F) o g → (∀ x, x < 64 → hb v x = true → ∃ j, j < o ∧ g j = x) → (∀ j, j < o → hb w (g j) = true → hb v (g j) = true) → (∀ x, x < 64 → hb th x = true → hb w x = false → ∃ j, j < o ∧ g j = x) → Q v t') :
    ∀ (d i K o : Nat) (g : Nat → Nat) (t : XT) (li : Nat → Int32) (lj : Nat → Int64), i + d = m → 2 * d + 10 ≤ K → hy_t t m → ht_fr t0 t → t.1 7 = t0.1 7 → o0 ≤ o → t.1 6 = nI o → o ≤ 64 → (∀ j, j < o → t.2.2.1 7 j = nI (g j)) → ht_ok th (ht_s P F) o g → (∀ j, j < o0 → hb w (g j) = false) → (∀ x, x < 64 → hb th x = true → hb w x = false → ∃ j, j < o0 ∧ g j = x) → (∀ x, x < 64 → hb (lj 4) x = true → ∃ j, j < o ∧ g j = x) → (∀ j, o0 ≤ j → j < o → g j < i ∧ hb (lj 4) (g j) = true) → li 6 = nI i → lj 2 = w → wpX2_give K 1 t li lj Q := by
  have three : ∀ (K o : Nat) (g : Nat → Nat) (t : XT) (li : Nat → Int32) (lj : Nat → Int64), 1 ≤ K → hy_t t m → ht_fr t0 t → t.1 7 = t0.1 7 → o0 ≤ o → t.1 6 = nI o → o ≤ 64 → (∀ j, j < o → t.2.2.1 7 j = nI (g j)) → ht_ok th (ht_s P F) o g → (∀ j, j < o0 → hb w (g j) = false) → (∀ x, x < 64 → hb th x = true → hb w x = false → ∃ j, j < o0 ∧ g j = x) → (∀ x, x < 64 → hb (lj 4) x = true → ∃ j, j < o ∧ g j = x) → (∀ j, o0 ≤ j → j < o → hb (lj 4) (g j) = true) → wpX2_give K 3 t li lj Q := by
    intro K o g t li lj hK hI hf h7 ho e6 ho64 hg hok h1 h2 h3 h4
    obtain ⟨K, rfl⟩ : ∃ K', K = K' + 1 := ⟨K - 1, by omega⟩
    refine hQ _ t o g hI hf h7 ho ho64 e6 hg hok h3 (fun j hj hb1 => ?_) (fun x hx a b => ?_)
    · by_cases q : j < o0
      · rw [h1 j q] at hb1; exact absurd hb1 (by decide)
      · exact h4 j (by omega) hj
    · obtain ⟨j, j1, j2⟩ := h2 x hx a b
      exact ⟨j, by omega, j2⟩
  intro d
  induction d with
  | zero =>
    intro i K o g t li lj hd hK hI hf h7 ho e6 ho64 hg hok h1 h2 h3 h4 ei ew
    obtain ⟨K, rfl⟩ : ∃ K', K = K' + 1 := ⟨K - 1, by omega⟩
    have m60 := hI.2.1
    show wbX2_give_1 (wpX2_give K) K t li lj Q
    exact ⟨fun _ => three K o g t li lj (by omega) hI hf h7 ho e6 ho64 hg hok h1 h2 h3 (fun j a b => (h4 j a b).2), fun x => absurd (by rw [hI.1, ei]; exact nI_le (by omega) (by omega)) x⟩
  | succ d ih =>
    intro i K o g t li lj hd hK hI hf h7 ho e6 ho64 hg hok h1 h2 h3 h4 ei ew
    obtain ⟨K, rfl⟩ : ∃ K', K = K' + 2 := ⟨K - 2, by omega⟩
    have m60 := hI.2.1
    have stay : wpX2_give (K + 1) 2 t li lj Q := by
      show wbX2_give_2 (wpX2_give K) K t li lj Q
      intro v e
      exact ih (i + 1) K o g t _ lj (by omega) (by omega) hI hf h7 ho e6 ho64 hg hok h1 h2 h3 (fun j a b => ⟨by have := (h4 j a b).1; omega, (h4 j a b).2⟩) (by show v = _; rw [e, ei]; exact hs_inc i) ew
    have end3 := three (K + 1) o g t li lj (by omega) hI hf h7 ho e6 ho64 hg hok h1 h2 h3 (fun j a b => (h4 j a b).2)
    show wbX2_give_1 (wpX2_give (K + 1)) (K + 1) t li lj Q
    unfold wbX2_give_1
    rw [ei, ew]
    refine ⟨fun _ => end3, fun _ => ⟨fun _ => end3, fun y => hw_isIn (by omega) (by omega) (fun bw => ⟨fun x => absurd x (by decide), fun _ => ?_⟩) (fun _ => ⟨fun _ => stay, fun x => absurd rfl x⟩)⟩⟩
    refine ht_steps (by omega) (hI.2.2 i (by omega)) (by omega) (fun v _ sv v6 f6 v7 f7 => ⟨fun _ => stay, fun nz => ?_⟩)
    refine hw_bit (by omega) (by omega) (fun r9 f9 v10 f10 => ⟨vp_in_nI (by omega) (by decide), fun t11 f11 => ?_⟩)
    have lt : o < 64 := by
      refine Nat.lt_of_not_le (fun q => y ?_)
      rw [e6]; exact nI_le (by omega) (by omega)
    have i6 : t11.1 6 = nI o := by rw [f11]; exact e6
    have co : (nI o).toNatClampNeg = o := nI_clamp (by omega)
    refine ⟨by rw [i6]; exact vp_in_nI lt (by decide), fun t12 f12 v13 f13 t14 f14 => ?_⟩
    have g13 : v13 = nI (o + 1) := by rw [f13, f12]; exact (congrArg (· + 1) i6).trans (nI_1 o)
    rw [i6, co] at f12
    have nz : v7 = 0 := nz
    have z6 : ∀ x, hb v6 x = false := fun x => hb_z (f7.symm.trans nz) x
    have free : ∀ x, x < 64 → hb th x = true → ht_s P F i x → ∃ j, j < o0 ∧ g j = x := by
      intro x hx hth hs
      refine h2 x hx hth ?_
      have a := z6 x
      rw [f6, hb_and] at a
      have b := sv x hx (by
        rw [hf.2.2.1 5 (by decide) (by decide), hf.2.2.2, hPF.1, hPF.2]; exact hs)
      rw [b, Bool.true_and] at a; exact a
    show wbX2_give_2 (wpX2_give K) K t14 li (uI lj 4 v10) Q
    intro v e
    have lower : ∀ j, j < o → g j ≠ i := by
      intro j hj q
      by_cases r : j < o0
      · have := h1 j r
        rw [q, bw] at this; exact absurd this (by decide)
      · have := (h4 j (by omega) hj).1; omega
    refine ih (i + 1) K (o + 1) (fun j => if j = o then i else g j) t14 _ _ (by omega) (by omega) ?_ ?_ ?_ (by omega) ?_ (by omega) ?_ ?_ ?_ ?_ ?_ ?_ (by show v = _; rw [e, ei]; exact hs_inc i) ew
    · subst f14 f12 f11
      exact hI
    · refine ht_fr_t hf ?_
      subst f14 f12 f11
      exact ⟨fun j x _ => ht_nI t 6 v13 x, rfl, fun r x y => (ht_nA (sA t 6 (upd (t.2.2.1 6) (nI i).toNatClampNeg (li 1))) 7 _ y).trans (ht_nA t 6 _ x), rfl⟩
    · rw [f14, f12, f11]; exact h7
    · rw [f14]; exact g13
    · intro j hj
      rw [f14, f12]
      show upd (t11.2.2.1 7) o (nI i) j = nI (if j = o then i else g j)
      by_cases x : j = o
      · rw [if_pos x]; exact if_pos x
      · rw [if_neg x, f11]
        exact (if_neg x).trans (hg j (by omega))
    · obtain ⟨k1, k2⟩ := hok
      refine ⟨fun j hj => ?_, fun j l hj hl => ?_⟩
      · show (if j = o then i else g j) < 64 ∧ hb th (if j = o then i else g j) = true ∧ ∀ x, x < 64 → hb th x = true → ht_s P F (if j = o then i else g j) x → ∃ l, l < j ∧ (if l = o then i else g l) = x
        by_cases x : j = o
        · rw [if_pos x]
          refine ⟨by omega, hw1 i (by omega) bw, fun y hy a b => ?_⟩
          obtain ⟨l, l1, l2⟩ := free y hy a b
          exact ⟨l, by omega, (if_neg (by omega)).trans l2⟩
        · rw [if_neg x]
          obtain ⟨b1, b2, b3⟩ := k1 j (by omega)
          refine ⟨b1, b2, fun y hy a b => ?_⟩
          obtain ⟨l, l1, l2⟩ := b3 y hy a b
          exact ⟨l, l1, (if_neg (by omega)).trans l2⟩
      · show (if j = o then i else g j) = (if l = o then i else g l) → j = l
        intro q
        by_cases x : j = o
        · by_cases y : l = o
          · omega
          · rw [if_pos x, if_neg y] at q; exact absurd q.symm (lower l (by omega))
        · by_cases y : l = o
          · rw [if_neg x, if_pos y] at q; exact absurd q (lower j (by omega))
          · rw [if_neg x, if_neg y] at q; exact k2 j l (by omega) (by omega) q
    · intro j hj
      show hb w (if j = o then i else g j) = false
      rw [if_neg (by omega)]; exact h1 j hj
    · intro x hx a b
      obtain ⟨j, j1, j2⟩ := h2 x hx a b
      exact ⟨j, j1, (if_neg (by omega)).trans j2⟩
    · intro x hx hv
      have hv : hb v10 x = true := hv
      rw [f10, hb_or, hb_one f9] at hv
      rcases Bool.or_eq_true _ _ |>.mp hv with q | q
      · obtain ⟨j, j1, j2⟩ := h3 x hx q
        exact ⟨j, by omega, (if_neg (by omega)).trans j2⟩
      · exact ⟨o, by omega, (if_pos rfl).trans (of_decide_eq_true q)⟩
    · intro j a b
      show (if j = o then i else g j) < i + 1 ∧ hb v10 (if j = o then i else g j) = true
      rw [f10, hb_or, hb_one f9]
      by_cases x : j = o
      · rw [if_pos x, decide_eq_true rfl, Bool.or_true]; exact ⟨by omega, rfl⟩
      · rw [if_neg x]
        obtain ⟨c1, c2⟩ := h4 j a (by omega)
        rw [c2]; exact ⟨by omega, Bool.true_or _⟩
theorem hy_give {m o0 K : Nat} {w th : Int64} {P : Nat → Int32} {F : Nat → Int64} {t : XT} {a : Int32} {g : Nat → Nat} {Q : Int64 → XT → Prop} (hI : hy_t t m) (hw1 : ∀ x, x < 64 → hb w x = true → hb th x = true) (hPF : t.2.2.1 5 = P ∧ t.2.2.2 0 = F) (e6 : t.1 6 = nI o0) (ho : o0 ≤ 64) (hg : ∀ j, j < o0 → t.2.2.1 7 j = nI (g j)) (hok : ht_ok th (ht_s P F) o0 g) (h1 : ∀ j, j < o0 → hb w (g j) = false) (h2 : ∀ x, x < 64 → hb th x = true → hb w x = false → ∃ j, j < o0 ∧ g j = x) (hK : 200 ≤ K)
    (hQ : ∀ v t' o g, hy_t t' m → ht_fr t t' → t'.1 7 = t.1 7 → o ≤ 64 → t'.1 6 = nI o → (∀ j, j < o → t'.2.2.1 7 j = nI (g j)) → ht_ok th (ht_s P F) o g → (∀ x, x < 64 → hb v x = true → ∃ j, j < o ∧ g j = x) → (∀ j, j < o → hb w (g j) = true → hb v (g j) = true) → (∀ x, x < 64 → hb th x = true → hb w x = false → ∃ j, j < o ∧ g j = x) → Q v t') : wqX2_give K t a w Q := by
  obtain ⟨K, rfl⟩ : ∃ K', K = K' + 1 := ⟨K - 1, by omega⟩
  have m60 := hI.2.1
  exact hy_give_go (o0 := o0) (w := w) (th := th) (P := P) (F := F) (t0 := t) hw1 hPF (fun v t' o g a b c d e f1 f2 f3 f4 f5 f6 => hQ v t' o g a b c e f1 f2 f3 f4 f5 f6) m 0 K o0 g t _ _ (by omega) (by omega) hI (ht_fr_r t) rfl (Nat.le_refl _) e6 ho hg hok h1 h2 (fun x _ h => by
    have h : hb 0 x = true := h
    rw [hb_0] at h; exact absurd h (by decide)) (fun j a b => absurd a (by omega)) rfl rfl
theorem hy_measure_go {m : Nat} {th : Int64} {P : Nat → Int32} {F : Nat → Int64} {t0 : XT} {Q : XT → Prop} (hPF : t0.2.2.1 5 = P ∧ t0.2.2.2 0 = F)
    (hQ : ∀ t' o g, hy_t t' m → ht_fr t0 t' → t'.1 7 = t0.1 7 → o ≤ 64 → t'.1 6 = nI o → (∀ j, j < o → t'.2.2.1 7 j = nI (g j)) → ht_ok th (ht_s P F) o g → Q t') :
    ∀ (d i K o : Nat) (g : Nat → Nat) (w : Int64) (t : XT) (li : Nat → Int32) (lj : Nat → Int64), i + d = 64 → d + 210 ≤ K → hy_t t m → ht_fr t0 t → t.1 7 = t0.1 7 → t.1 6 = nI o → o ≤ 64 → (∀ j, j < o → t.2.2.1 7 j = nI (g j)) → ht_ok th (ht_s P F) o g → (∀ x, x < 64 → hb w x = true → hb th x = true) → (∀ j, j < o → hb w (g j) = false) → (∀ x, x < 64 → hb th x = true → hb w x = false → ∃ j, j < o ∧ g j = x) → li 3 = nI i → lj 1 = w → wpX2_measure K 1 t li lj Q := by
  intro d
  induction d with
  | zero =>
    intro i K o g w t li lj hd hK hI hf h7 e6 ho hg hok hw h1 h2 e3 e1
    obtain ⟨K, rfl⟩ : ∃ K', K = K' + 1 := ⟨K - 1, by omega⟩
    obtain rfl : i = 64 := by omega
    show wbX2_measure_1 (wpX2_measure K) K t li lj Q
    exact ⟨fun _ => hQ t o g hI hf h7 ho e6 hg hok, fun x => absurd (show nI 64 ≤ li 3 by rw [e3]; exact nI_le (by omega) (by omega)) x⟩
  | succ d ih =>
    intro i K o g w t li lj hd hK hI hf h7 e6 ho hg hok hw h1 h2 e3 e1
    obtain ⟨K, rfl⟩ : ∃ K', K = K' + 1 := ⟨K - 1, by omega⟩
    have out := hQ t o g hI hf h7 ho e6 hg hok
    show wbX2_measure_1 (wpX2_measure K) K t li lj Q
    unfold wbX2_measure_1
    rw [e1]
    refine ⟨fun _ => out, fun _ v6 _ => ⟨fun _ => out, fun _ => ?_⟩⟩
    refine hy_give hI hw ⟨(hf.2.2.1 5 (by decide) (by decide)).trans hPF.1, (congrFun hf.2.2.2 0).trans hPF.2⟩ e6 ho hg hok h1 h2 (by omega) (fun v t' o' g' b1 b2 b3 b4 b5 b6 b7 b8 b9 b10 v9 e9 v10 e10 v11 e11 => ?_)
    have wb : ∀ x, x < 64 → hb v10 x = (hb w x && !hb v x) := fun x hx => by rw [e10, hb_and, e9, hb_not v hx]
    refine ih (i + 1) K o' g' v10 t' _ _ (by omega) (by omega) b1 (ht_fr_t hf b2) (b3.trans h7) b5 b4 b6 b7 (fun x hx hv => ?_) (fun j hj => ?_) (fun x hx a b => ?_) (by show v11 = _; rw [e11, e3]; exact hs_inc i) rfl
    · rw [wb x hx, Bool.and_eq_true] at hv; exact hw x hx hv.1
    · have g64 := (b7.1 j hj).1
      rw [wb _ g64]
      cases q : hb w (g' j) with
      | false => rfl
      | true => rw [b9 j hj q]; rfl
    · rw [wb x hx] at b
      cases q : hb w x with
      | false => exact b10 x hx a q
      | true =>
        rw [q, Bool.true_and] at b
        refine b8 x hx ?_
        cases r : hb v x with
        | true => rfl
        | false => rw [r] at b; exact absurd b (by decide)
/-- measured or not: the order stands as it must, if it did so where nothing has changed -/
theorem hy_measure {m K : Nat} {t : XT} {Q : XT → Prop} (hI : hy_t t m) (hF : t.1 7 = t.1 5 → ht_topo t) (hK : 300 ≤ K) (hQ : ∀ t', hy_t t' m → ht_fr t t' → t'.1 7 = t'.1 5 → ht_topo t' → Q t') : wqX2_measure K t Q := by
  obtain ⟨K, rfl⟩ : ∃ K', K = K' + 1 := ⟨K - 1, by omega⟩
  show wbX2_measure_0 (wpX2_measure K) K t (fun _ => 0) (fun _ => 0) Q
  refine ⟨fun ne t2 e2 t3 e3 t4 e4 => ?_, fun e => hQ t hI (ht_fr_r t) e (hF e)⟩
  have fr : ht_fr t t4 := by
    subst e4 e3 e2
    exact ⟨fun i x y => (ht_nI _ 6 0 x).trans (ht_nI t 7 _ y), rfl, fun r x _ => ht_nA (sI t 7 (t.1 5)) 6 _ x, rfl⟩
  have i7 : t4.1 7 = t.1 5 := by rw [e4, e3, e2]; rfl
  refine hy_measure_go (m := m) (t0 := t4) (th := t4.2.1 0) (P := t4.2.2.1 5) (F := t4.2.2.2 0) ⟨rfl, rfl⟩ (fun t' o g a b c d e f h => ?_) 64 0 K 0 (fun _ => 0) (t4.2.1 0) t4 (uI (fun _ => 0) 3 0) (uI (fun _ => 0) 1 (t4.2.1 0)) (by omega) (by omega) ?_ (ht_fr_r t4) rfl ?_ (by omega) (fun j hj => absurd hj (by omega)) ⟨fun j hj => absurd hj (by omega), fun j l hj _ _ => absurd hj (by omega)⟩ (fun x _ h => h) (fun j hj => absurd hj (by omega)) (fun x _ a b => by rw [a] at b; exact absurd b (by decide)) rfl rfl
  · refine hQ t' a (ht_fr_t fr b) ?_ ⟨o, g, d, e, f, ?_⟩
    · rw [c, i7, b.1 5 (by decide) (by decide), fr.1 5 (by decide) (by decide)]
    · rw [b.2.1, b.2.2.1 5 (by decide) (by decide), b.2.2.2]; exact h
  · subst e4 e3 e2
    exact hI
  · rw [e4]; rfl
