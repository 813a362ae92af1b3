/-! ===== the class: HEIGHTS' order exactly: what one can go to from a listed one stands before it ===== -/
theorem hb_xor (v w : Int64) (k : Nat) : hb (v ^^^ w) k = (hb v k ^^ hb w k) := by
  unfold hb; rw [un_xor, Nat.testBit_xor]
/-- one can go from k to x -/
def ht_s (P : Nat → Int32) (F : Nat → Int64) (k x : Nat) : Prop := (P k = -1 ∧ hb (F k) x = true) ∨ ∃ p, p < 64 ∧ P k = nI p ∧ (hb (F k) x ^^ decide (p = x)) = true
def ht_ok (there : Int64) (st : Nat → Nat → Prop) (o : Nat) (g : Nat → Nat) : Prop := (∀ i, i < o → g i < 64 ∧ hb there (g i) = true ∧ ∀ x, x < 64 → hb there x = true → st (g i) x → ∃ j, j < i ∧ g j = x) ∧ ∀ i j, i < o → j < o → g i = g j → i = j
def ht_topo (t : XT) : Prop := ∃ (o : Nat) (g : Nat → Nat), o ≤ 64 ∧ t.1 6 = nI o ∧ (∀ i, i < o → t.2.2.1 7 i = nI (g i)) ∧ ht_ok (t.2.1 0) (ht_s (t.2.2.1 5) (t.2.2.2 0)) o g
/-- what measuring leaves as it is -/
def ht_fr (t t' : XT) : Prop := (∀ i, i ≠ 6 → i ≠ 7 → t'.1 i = t.1 i) ∧ t'.2.1 = t.2.1 ∧ (∀ r, r ≠ 6 → r ≠ 7 → t'.2.2.1 r = t.2.2.1 r) ∧ t'.2.2.2 = t.2.2.2
theorem ht_fr_r (t : XT) : ht_fr t t := ⟨fun _ _ _ => rfl, rfl, fun _ _ _ => rfl, rfl⟩
theorem ht_fr_t {a b c : XT} (h1 : ht_fr a b) (h2 : ht_fr b c) : ht_fr a c := by
  obtain ⟨p1, p2, p3, p4⟩ := h1
  obtain ⟨q1, q2, q3, q4⟩ := h2
  exact ⟨fun i x y => (q1 i x y).trans (p1 i x y), q2.trans p2, fun i x y => (q3 i x y).trans (p3 i x y), q4.trans p4⟩
theorem uI_ne {α : Type} (f : Nat → α) {j k : Nat} (v : α) (h : j ≠ k) : uI f k v j = f j := by
  unfold uI
  cases q : Nat.beq j k with
  | false => rfl
  | true => exact absurd (Nat.eq_of_beq_eq_true q) h
theorem ht_nI (u : XT) (i : Nat) (v : Int32) {j : Nat} (h : j ≠ i) : (sI u i v).1 j = u.1 j := uI_ne u.1 v h
theorem ht_nA (u : XT) (i : Nat) (v : Nat → Int32) {j : Nat} (h : j ≠ i) : (sA u i v).2.2.1 j = u.2.2.1 j := uI_ne u.2.2.1 v h
theorem ht_steps {t : XT} {k K : Nat} {Q : Int64 → XT → Prop} (hk : k < 64) (hp : hx_p (t.2.2.1 5 k)) (hK : 1 ≤ K) (h : ∀ v, (∀ x, x < 64 → hb v x = true → ht_s (t.2.2.1 5) (t.2.2.2 0) k x) → (∀ x, x < 64 → ht_s (t.2.2.1 5) (t.2.2.2 0) k x → hb v x = true) → Q v t) : wqX6_steps K t (nI k) Q := by
  obtain ⟨K, rfl⟩ : ∃ K', K = K' + 1 := ⟨K - 1, by omega⟩
  have i := vp_in_nI (n := k) (N := 64) hk (by decide)
  have c : (nI k).toNatClampNeg = k := nI_clamp (by omega)
  show wbX6_steps_0 (wpX6_steps K) K t (uI (fun _ => 0) 1 (nI k)) (fun _ => 0) Q
  refine ⟨i, fun v1 e1 => ⟨fun ne => ⟨i, fun v3 e3 => ⟨i, fun v4 e4 v5 e5 v6 e6 => ?_⟩⟩, fun eq => ⟨i, fun v7 e7 => ?_⟩⟩⟩
  · have e1 : v1 = t.2.2.1 5 k := e1.trans (congrArg (t.2.2.1 5) c)
    have e3 : v3 = t.2.2.2 0 k := e3.trans (congrArg (t.2.2.2 0) c)
    have e4 : v4 = t.2.2.1 5 k := e4.trans (congrArg (t.2.2.1 5) c)
    obtain ⟨p, hp64, ep⟩ := hx_p_in hp (by rw [← e1]; exact ne)
    have f5 : un v5 = 2 ^ p := by rw [e5, e4, ep]; exact hw_1k p hp64
    refine h v6 (fun x hx hv => Or.inr ⟨p, hp64, ep, ?_⟩) (fun x hx hs => ?_)
    · rw [e6, hb_xor, e3, hb_one f5] at hv; exact hv
    · rw [e6, hb_xor, e3, hb_one f5]
      rcases hs with ⟨z, _⟩ | ⟨p', _, ep', hv⟩
      · exact absurd (e1.trans z) ne
      · obtain rfl : p' = p := (nI_eq (by omega) (by omega)).mp (ep'.symm.trans ep)
        exact hv
  · have e1 : v1 = t.2.2.1 5 k := e1.trans (congrArg (t.2.2.1 5) c)
    have e7 : v7 = t.2.2.2 0 k := e7.trans (congrArg (t.2.2.2 0) c)
    have eq : v1 = -1 := eq
    have em := e1.symm.trans eq
    refine h v7 (fun x hx hv => Or.inl ⟨em, by rw [← e7]; exact hv⟩) (fun x hx hs => ?_)
    rcases hs with ⟨_, z⟩ | ⟨p', hp', ep', _⟩
    · rw [e7]; exact z
    · have := (congrArg Int32.toInt (em.symm.trans ep'))
      rw [nI_toInt (by omega)] at this
      have w : (-1 : Int) = (p' : Int) := this
      omega
/-- a set that is 0 has nothing -/
theorem hb_z {v : Int64} (h : lg_cmp v 0 = 0) (k : Nat) : hb v k = false := by
  rw [(hs_cmp0 _ _).mp h]; exact hb_0 k
theorem ht_give_go {z : Int32} {m o0 : Nat} {w th : Int64} {P : Nat → Int32} {F : Nat → Int64} {t0 : XT} {Q : Int64 → XT → Prop} (hw1 : ∀ x, x < 64 → hb w x = true → hb th x = true) (hPF : t0.2.2.1 5 = P ∧ t0.2.2.2 0 = F)
    (hQ : ∀ v t' o g, hx_inv t' z m → ht_fr t0 t' → t'.1 7 = t0.1 7 → o0 ≤ o → o ≤ 64 → t'.1 6 = nI o → (∀ j, j < o → t'.2.2.1 7 j = nI (g j)) → ht_ok th (ht_s P F) o g → (∀ x, x < 64 → hb v x = true → ∃ j, j < o ∧ g j = x) → (∀ j, j < o → hb w (g j) = true → hb v (g j) = true) → (∀ x, x < 64 → hb th x = true → hb w x = false → ∃ j, j < o ∧ g j = x) → Q v t') :
    ∀ (d i K o : Nat) (g : Nat → Nat) (t : XT) (li : Nat → Int32) (lj : Nat → Int64), i + d = m → 2 * d + 10 ≤ K → hx_inv t z m → ht_fr t0 t → t.1 7 = t0.1 7 → o0 ≤ o → t.1 6 = nI o → o ≤ 64 → (∀ j, j < o → t.2.2.1 7 j = nI (g j)) → ht_ok th (ht_s P F) o g → (∀ j, j < o0 → hb w (g j) = false) → (∀ x, x < 64 → hb th x = true → hb w x = false → ∃ j, j < o0 ∧ g j = x) → (∀ x, x < 64 → hb (lj 4) x = true → ∃ j, j < o ∧ g j = x) → (∀ j, o0 ≤ j → j < o → g j < i ∧ hb (lj 4) (g j) = true) → li 6 = nI i → lj 2 = w → wpX2_give K 1 t li lj Q := by
  have three : ∀ (K o : Nat) (g : Nat → Nat) (t : XT) (li : Nat → Int32) (lj : Nat → Int64), 1 ≤ K → hx_inv t z m → ht_fr t0 t → t.1 7 = t0.1 7 → o0 ≤ o → t.1 6 = nI o → o ≤ 64 → (∀ j, j < o → t.2.2.1 7 j = nI (g j)) → ht_ok th (ht_s P F) o g → (∀ j, j < o0 → hb w (g j) = false) → (∀ x, x < 64 → hb th x = true → hb w x = false → ∃ j, j < o0 ∧ g j = x) → (∀ x, x < 64 → hb (lj 4) x = true → ∃ j, j < o ∧ g j = x) → (∀ j, o0 ≤ j → j < o → hb (lj 4) (g j) = true) → wpX2_give K 3 t li lj Q := by
    intro K o g t li lj hK hI hf h7 ho e6 ho64 hg hok h1 h2 h3 h4
    obtain ⟨K, rfl⟩ : ∃ K', K = K' + 1 := ⟨K - 1, by omega⟩
    refine hQ _ t o g hI hf h7 ho ho64 e6 hg hok h3 (fun j hj hb1 => ?_) (fun x hx a b => ?_)
    · by_cases q : j < o0
      · rw [h1 j q] at hb1; exact absurd hb1 (by decide)
      · exact h4 j (by omega) hj
    · obtain ⟨j, j1, j2⟩ := h2 x hx a b
      exact ⟨j, by omega, j2⟩
  intro d
  induction d with
  | zero =>
    intro i K o g t li lj hd hK hI hf h7 ho e6 ho64 hg hok h1 h2 h3 h4 ei ew
    obtain ⟨K, rfl⟩ : ∃ K', K = K' + 1 := ⟨K - 1, by omega⟩
    have m60 := hI.2.2.1
    show wbX2_give_1 (wpX2_give K) K t li lj Q
    exact ⟨fun _ => three K o g t li lj (by omega) hI hf h7 ho e6 ho64 hg hok h1 h2 h3 (fun j a b => (h4 j a b).2), fun x => absurd (by rw [hI.2.1, ei]; exact nI_le (by omega) (by omega)) x⟩
  | succ d ih =>
    intro i K o g t li lj hd hK hI hf h7 ho e6 ho64 hg hok h1 h2 h3 h4 ei ew
    obtain ⟨K, rfl⟩ : ∃ K', K = K' + 2 := ⟨K - 2, by omega⟩
    have m60 := hI.2.2.1
    have stay : wpX2_give (K + 1) 2 t li lj Q := by
      show wbX2_give_2 (wpX2_give K) K t li lj Q
      intro v e
      exact ih (i + 1) K o g t _ lj (by omega) (by omega) hI hf h7 ho e6 ho64 hg hok h1 h2 h3 (fun j a b => ⟨by have := (h4 j a b).1; omega, (h4 j a b).2⟩) (by show v = _; rw [e, ei]; exact hs_inc i) ew
    have end3 := three (K + 1) o g t li lj (by omega) hI hf h7 ho e6 ho64 hg hok h1 h2 h3 (fun j a b => (h4 j a b).2)
    show wbX2_give_1 (wpX2_give (K + 1)) (K + 1) t li lj Q
    unfold wbX2_give_1
    rw [ei, ew]
    refine ⟨fun _ => end3, fun _ => ⟨fun _ => end3, fun y => hw_isIn (by omega) (by omega) (fun bw => ⟨fun x => absurd x (by decide), fun _ => ?_⟩) (fun _ => ⟨fun _ => stay, fun x => absurd rfl x⟩)⟩⟩
    refine ht_steps (by omega) (hI.2.2.2.2.2.2.2.1 i (by omega)) (by omega) (fun v _ sv v6 f6 v7 f7 => ⟨fun _ => stay, fun nz => ?_⟩)
    refine hw_bit (by omega) (by omega) (fun r9 f9 v10 f10 => ⟨vp_in_nI (by omega) (by decide), fun t11 f11 => ?_⟩)
    have lt : o < 64 := by
      refine Nat.lt_of_not_le (fun q => y ?_)
      rw [e6]; exact nI_le (by omega) (by omega)
    have i6 : t11.1 6 = nI o := by rw [f11]; exact e6
    have co : (nI o).toNatClampNeg = o := nI_clamp (by omega)
    refine ⟨by rw [i6]; exact vp_in_nI lt (by decide), fun t12 f12 v13 f13 t14 f14 => ?_⟩
    have g13 : v13 = nI (o + 1) := by rw [f13, f12]; exact (congrArg (· + 1) i6).trans (nI_1 o)
    rw [i6, co] at f12
    have nz : v7 = 0 := nz
    have z6 : ∀ x, hb v6 x = false := fun x => hb_z (f7.symm.trans nz) x
    have free : ∀ x, x < 64 → hb th x = true → ht_s P F i x → ∃ j, j < o0 ∧ g j = x := by
      intro x hx hth hs
      refine h2 x hx hth ?_
      have a := z6 x
      rw [f6, hb_and] at a
      have b := sv x hx (by
        rw [hf.2.2.1 5 (by decide) (by decide), hf.2.2.2, hPF.1, hPF.2]; exact hs)
      rw [b, Bool.true_and] at a; exact a
    show wbX2_give_2 (wpX2_give K) K t14 li (uI lj 4 v10) Q
    intro v e
    have lower : ∀ j, j < o → g j ≠ i := by
      intro j hj q
      by_cases r : j < o0
      · have := h1 j r
        rw [q, bw] at this; exact absurd this (by decide)
      · have := (h4 j (by omega) hj).1; omega
    refine ih (i + 1) K (o + 1) (fun j => if j = o then i else g j) t14 _ _ (by omega) (by omega) ?_ ?_ ?_ (by omega) ?_ (by omega) ?_ ?_ ?_ ?_ ?_ ?_ (by show v = _; rw [e, ei]; exact hs_inc i) ew
    · obtain ⟨a1, a2, a3, a4, a5, a6, a7, a8, a9, a10⟩ := hI
      subst f14 f12 f11
      refine ⟨a1, a2, a3, ⟨o + 1, by omega, g13⟩, a5, a6, a7, a8, fun j hj => ?_, a10⟩
      show ∃ k, k < 64 ∧ upd (t.2.2.1 7) o (nI i) j = nI k
      by_cases x : j = o
      · exact ⟨i, by omega, if_pos x⟩
      · obtain ⟨k, k1, k2⟩ := a9 j hj
        exact ⟨k, k1, (if_neg x).trans k2⟩
    · refine ht_fr_t hf ?_
      subst f14 f12 f11
      exact ⟨fun j x _ => ht_nI t 6 v13 x, rfl, fun r x y => (ht_nA (sA t 6 (upd (t.2.2.1 6) (nI i).toNatClampNeg (li 1))) 7 _ y).trans (ht_nA t 6 _ x), rfl⟩
    · rw [f14, f12, f11]; exact h7
    · rw [f14]; exact g13
    · intro j hj
      rw [f14, f12]
      show upd (t11.2.2.1 7) o (nI i) j = nI (if j = o then i else g j)
      by_cases x : j = o
      · rw [if_pos x]; exact if_pos x
      · rw [if_neg x, f11]
        exact (if_neg x).trans (hg j (by omega))
    · obtain ⟨k1, k2⟩ := hok
      refine ⟨fun j hj => ?_, fun j l hj hl => ?_⟩
      · show (if j = o then i else g j) < 64 ∧ hb th (if j = o then i else g j) = true ∧ ∀ x, x < 64 → hb th x = true → ht_s P F (if j = o then i else g j) x → ∃ l, l < j ∧ (if l = o then i else g l) = x
        by_cases x : j = o
        · rw [if_pos x]
          refine ⟨by omega, hw1 i (by omega) bw, fun y hy a b => ?_⟩
          obtain ⟨l, l1, l2⟩ := free y hy a b
          exact ⟨l, by omega, (if_neg (by omega)).trans l2⟩
        · rw [if_neg x]
          obtain ⟨b1, b2, b3⟩ := k1 j (by omega)
          refine ⟨b1, b2, fun y hy a b => ?_⟩
          obtain ⟨l, l1, l2⟩ := b3 y hy a b
          exact ⟨l, l1, (if_neg (by omega)).trans l2⟩
      · show (if j = o then i else g j) = (if l = o then i else g l) → j = l
        intro q
        by_cases x : j = o
        · by_cases y : l = o
          · omega
          · rw [if_pos x, if_neg y] at q; exact absurd q.symm (lower l (by omega))
        · by_cases y : l = o
          · rw [if_neg x, if_pos y] at q; exact absurd q (lower j (by omega))
          · rw [if_neg x, if_neg y] at q; exact k2 j l (by omega) (by omega) q
    · intro j hj
      show hb w (if j = o then i else g j) = false
      rw [if_neg (by omega)]; exact h1 j hj
    · intro x hx a b
      obtain ⟨j, j1, j2⟩ := h2 x hx a b
      exact ⟨j, j1, (if_neg (by omega)).trans j2⟩
    · intro x hx hv
      have hv : hb v10 x = true := hv
      rw [f10, hb_or, hb_one f9] at hv
      rcases Bool.or_eq_true _ _ |>.mp hv with q | q
      · obtain ⟨j, j1, j2⟩ := h3 x hx q
        exact ⟨j, by omega, (if_neg (by omega)).trans j2⟩
      · exact ⟨o, by omega, (if_pos rfl).trans (of_decide_eq_true q)⟩
    · intro j a b
      show (if j = o then i else g j) < i + 1 ∧ hb v10 (if j = o then i else g j) = true
      rw [f10, hb_or, hb_one f9]
      by_cases x : j = o
      · rw [if_pos x, decide_eq_true rfl, Bool.or_true]; exact ⟨by omega, rfl⟩
      · rw [if_neg x]
        obtain ⟨c1, c2⟩ := h4 j a (by omega)
        rw [c2]; exact ⟨by omega, Bool.true_or _⟩
theorem ht_give {z : Int32} {m o0 K : Nat} {w th : Int64} {P : Nat → Int32} {F : Nat → Int64} {t : XT} {a : Int32} {g : Nat → Nat} {Q : Int64 → XT → Prop} (hI : hx_inv t z m) (hw1 : ∀ x, x < 64 → hb w x = true → hb th x = true) (hPF : t.2.2.1 5 = P ∧ t.2.2.2 0 = F) (e6 : t.1 6 = nI o0) (ho : o0 ≤ 64) (hg : ∀ j, j < o0 → t.2.2.1 7 j = nI (g j)) (hok : ht_ok th (ht_s P F) o0 g) (h1 : ∀ j, j < o0 → hb w (g j) = false) (h2 : ∀ x, x < 64 → hb th x = true → hb w x = false → ∃ j, j < o0 ∧ g j = x) (hK : 200 ≤ K)
    (hQ : ∀ v t' o g, hx_inv t' z m → ht_fr t t' → t'.1 7 = t.1 7 → o ≤ 64 → t'.1 6 = nI o → (∀ j, j < o → t'.2.2.1 7 j = nI (g j)) → ht_ok th (ht_s P F) o g → (∀ x, x < 64 → hb v x = true → ∃ j, j < o ∧ g j = x) → (∀ j, j < o → hb w (g j) = true → hb v (g j) = true) → (∀ x, x < 64 → hb th x = true → hb w x = false → ∃ j, j < o ∧ g j = x) → Q v t') : wqX2_give K t a w Q := by
  obtain ⟨K, rfl⟩ : ∃ K', K = K' + 1 := ⟨K - 1, by omega⟩
  have m60 := hI.2.2.1
  exact ht_give_go (o0 := o0) (w := w) (th := th) (P := P) (F := F) (t0 := t) hw1 hPF (fun v t' o g a b c d e f1 f2 f3 f4 f5 f6 => hQ v t' o g a b c e f1 f2 f3 f4 f5 f6) m 0 K o0 g t _ _ (by omega) (by omega) hI (ht_fr_r t) rfl (Nat.le_refl _) e6 ho hg hok h1 h2 (fun x _ h => by
    have h : hb 0 x = true := h
    rw [hb_0] at h; exact absurd h (by decide)) (fun j a b => absurd a (by omega)) rfl rfl
theorem ht_measure_go {z : Int32} {m : Nat} {th : Int64} {P : Nat → Int32} {F : Nat → Int64} {t0 : XT} {Q : XT → Prop} (hPF : t0.2.2.1 5 = P ∧ t0.2.2.2 0 = F)
    (hQ : ∀ t' o g, hx_inv t' z m → ht_fr t0 t' → t'.1 7 = t0.1 7 → o ≤ 64 → t'.1 6 = nI o → (∀ j, j < o → t'.2.2.1 7 j = nI (g j)) → ht_ok th (ht_s P F) o g → Q t') :
    ∀ (d i K o : Nat) (g : Nat → Nat) (w : Int64) (t : XT) (li : Nat → Int32) (lj : Nat → Int64), i + d = 64 → d + 210 ≤ K → hx_inv t z m → ht_fr t0 t → t.1 7 = t0.1 7 → t.1 6 = nI o → o ≤ 64 → (∀ j, j < o → t.2.2.1 7 j = nI (g j)) → ht_ok th (ht_s P F) o g → (∀ x, x < 64 → hb w x = true → hb th x = true) → (∀ j, j < o → hb w (g j) = false) → (∀ x, x < 64 → hb th x = true → hb w x = false → ∃ j, j < o ∧ g j = x) → li 3 = nI i → lj 1 = w → wpX2_measure K 1 t li lj Q := by
  intro d
  induction d with
  | zero =>
    intro i K o g w t li lj hd hK hI hf h7 e6 ho hg hok hw h1 h2 e3 e1
    obtain ⟨K, rfl⟩ : ∃ K', K = K' + 1 := ⟨K - 1, by omega⟩
    obtain rfl : i = 64 := by omega
    show wbX2_measure_1 (wpX2_measure K) K t li lj Q
    exact ⟨fun _ => hQ t o g hI hf h7 ho e6 hg hok, fun x => absurd (show nI 64 ≤ li 3 by rw [e3]; exact nI_le (by omega) (by omega)) x⟩
  | succ d ih =>
    intro i K o g w t li lj hd hK hI hf h7 e6 ho hg hok hw h1 h2 e3 e1
    obtain ⟨K, rfl⟩ : ∃ K', K = K' + 1 := ⟨K - 1, by omega⟩
    have out := hQ t o g hI hf h7 ho e6 hg hok
    show wbX2_measure_1 (wpX2_measure K) K t li lj Q
    unfold wbX2_measure_1
    rw [e1]
    refine ⟨fun _ => out, fun _ v6 _ => ⟨fun _ => out, fun _ => ?_⟩⟩
    refine ht_give hI hw ⟨(hf.2.2.1 5 (by decide) (by decide)).trans hPF.1, (congrFun hf.2.2.2 0).trans hPF.2⟩ e6 ho hg hok h1 h2 (by omega) (fun v t' o' g' b1 b2 b3 b4 b5 b6 b7 b8 b9 b10 v9 e9 v10 e10 v11 e11 => ?_)
    have wb : ∀ x, x < 64 → hb v10 x = (hb w x && !hb v x) := fun x hx => by rw [e10, hb_and, e9, hb_not v hx]
    refine ih (i + 1) K o' g' v10 t' _ _ (by omega) (by omega) b1 (ht_fr_t hf b2) (b3.trans h7) b5 b4 b6 b7 (fun x hx hv => ?_) (fun j hj => ?_) (fun x hx a b => ?_) (by show v11 = _; rw [e11, e3]; exact hs_inc i) rfl
    · rw [wb x hx, Bool.and_eq_true] at hv; exact hw x hx hv.1
    · have g64 := (b7.1 j hj).1
      rw [wb _ g64]
      cases q : hb w (g' j) with
      | false => rfl
      | true => rw [b9 j hj q]; rfl
    · rw [wb x hx] at b
      cases q : hb w x with
      | false => exact b10 x hx a q
      | true =>
        rw [q, Bool.true_and] at b
        refine b8 x hx ?_
        cases r : hb v x with
        | true => rfl
        | false => rw [r] at b; exact absurd b (by decide)
/-- measured or not: the order stands as it must, if it did so where nothing has changed -/
theorem ht_measure {z : Int32} {m K : Nat} {t : XT} {Q : XT → Prop} (hI : hx_inv t z m) (hF : t.1 7 = t.1 5 → ht_topo t) (hK : 300 ≤ K) (hQ : ∀ t', hx_inv t' z m → ht_fr t t' → t'.1 7 = t'.1 5 → ht_topo t' → Q t') : wqX2_measure K t Q := by
  obtain ⟨K, rfl⟩ : ∃ K', K = K' + 1 := ⟨K - 1, by omega⟩
  show wbX2_measure_0 (wpX2_measure K) K t (fun _ => 0) (fun _ => 0) Q
  refine ⟨fun ne t2 e2 t3 e3 t4 e4 => ?_, fun e => hQ t hI (ht_fr_r t) e (hF e)⟩
  have fr : ht_fr t t4 := by
    subst e4 e3 e2
    exact ⟨fun i x y => (ht_nI _ 6 0 x).trans (ht_nI t 7 _ y), rfl, fun r x _ => ht_nA (sI t 7 (t.1 5)) 6 _ x, rfl⟩
  have i7 : t4.1 7 = t.1 5 := by rw [e4, e3, e2]; rfl
  refine ht_measure_go (z := z) (m := m) (t0 := t4) (th := t4.2.1 0) (P := t4.2.2.1 5) (F := t4.2.2.2 0) ⟨rfl, rfl⟩ (fun t' o g a b c d e f h => ?_) 64 0 K 0 (fun _ => 0) (t4.2.1 0) t4 (uI (fun _ => 0) 3 0) (uI (fun _ => 0) 1 (t4.2.1 0)) (by omega) (by omega) ?_ (ht_fr_r t4) rfl ?_ (by omega) (fun j hj => absurd hj (by omega)) ⟨fun j hj => absurd hj (by omega), fun j l hj _ _ => absurd hj (by omega)⟩ (fun x _ h => h) (fun j hj => absurd hj (by omega)) (fun x _ a b => by rw [a] at b; exact absurd b (by decide)) rfl rfl
  · refine hQ t' a (ht_fr_t fr b) ?_ ⟨o, g, d, e, f, ?_⟩
    · rw [c, i7, b.1 5 (by decide) (by decide), fr.1 5 (by decide) (by decide)]
    · rw [b.2.1, b.2.2.1 5 (by decide) (by decide), b.2.2.2]; exact h
  · obtain ⟨a1, a2, a3, a4, a5, a6, a7, a8, a9, a10⟩ := hI
    subst e4 e3 e2
    exact ⟨a1, a2, a3, ⟨0, by omega, rfl⟩, a5, a6, a7, a8, a9, a10⟩
  · rw [e4]; rfl
