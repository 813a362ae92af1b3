/-! ===== the class: countWays, exactly, in the reference's words ===== -/
theorem hw_rem {p : Nat → Prop} {B : Nat → Nat} {j : Nat} (pj : p j) : ∀ n, hm_sum (fun x => hq_sel (p x) (B x)) n = (if j < n then B j else 0) + hm_sum (fun x => hq_sel (p x ∧ x ≠ j) (B x)) n := by
  intro n
  induction n with
  | zero => rw [if_neg (Nat.not_lt_zero j)]; rfl
  | succ n ih =>
    show hm_sum (fun x => hq_sel (p x) (B x)) n + hq_sel (p n) (B n) = (if j < n + 1 then B j else 0) + (hm_sum (fun x => hq_sel (p x ∧ x ≠ j) (B x)) n + hq_sel (p n ∧ n ≠ j) (B n))
    rw [ih]
    by_cases e : n = j
    · subst e
      rw [if_neg (Nat.lt_irrefl n), if_pos (Nat.lt_succ_self n), hq_sel1 pj, hq_sel0 (fun q => q.2 rfl)]
      omega
    · have sw : hq_sel (p n ∧ n ≠ j) (B n) = hq_sel (p n) (B n) := by
        by_cases q : p n
        · rw [hq_sel1 q, hq_sel1 ⟨q, e⟩]
        · rw [hq_sel0 q, hq_sel0 (fun z => q z.1)]
      rw [sw]
      by_cases l : j < n
      · rw [if_pos l, if_pos (by omega)]; omega
      · rw [if_neg l, if_neg (by omega)]; omega
theorem hw_cut {f : Nat → Nat} {c : Nat} : ∀ d, (∀ x, c ≤ x → x < c + d → f x = 0) → hm_sum f (c + d) = hm_sum f c := by
  intro d
  induction d with
  | zero => intro _; rfl
  | succ d ih =>
    intro h
    show hm_sum f (c + d) + f (c + d) = hm_sum f c
    rw [ih (fun x a b => h x a (by omega)), h (c + d) (by omega) (by omega)]; rfl
theorem hw_down_go {t : XT} {B : Nat → Nat} {T : Nat} {Q : Int64 → XT → Prop} (hQ : Q (lN T) t) :
    ∀ (d i K a : Nat) (li : Nat → Int32) (lj : Nat → Int64), i + d = 5 → 2 * d + 10 ≤ K → cp (hb (lj 4)) 64 + i ≤ 5 → (∀ x, x < 64 → hb (lj 4) x = true → t.2.2.2 4 x = lN (B x)) → lj 2 = lN a → a + hm_sum (fun x => hq_sel (hb (lj 4) x = true) (B x)) 64 = T → li 6 = nI i → wpX1_waysDown K 1 t li lj Q := by
  have fin : ∀ (K a : Nat) (li : Nat → Int32) (lj : Nat → Int64), 1 ≤ K → (∀ x, x < 64 → hb (lj 4) x = false) → lj 2 = lN a → a + hm_sum (fun x => hq_sel (hb (lj 4) x = true) (B x)) 64 = T → wpX1_waysDown K 2 t li lj Q := by
    intro K a li lj hK z e2 e
    obtain ⟨K, rfl⟩ : ∃ K', K = K' + 1 := ⟨K - 1, by omega⟩
    show Q (lj 2) t
    have s0 : hm_sum (fun x => hq_sel (hb (lj 4) x = true) (B x)) (0 + 64) = hm_sum (fun x => hq_sel (hb (lj 4) x = true) (B x)) 0 := hw_cut (c := 0) 64 (fun x _ hx => hq_sel0 (by rw [z x (by omega)]; decide))
    have s0 : hm_sum (fun x => hq_sel (hb (lj 4) x = true) (B x)) 64 = 0 := s0
    rw [s0] at e
    rw [e2, show a = T by omega]; exact hQ
  intro d
  induction d with
  | zero =>
    intro i K a li lj hd hK hcp hB e2 e e6
    obtain ⟨K, rfl⟩ : ∃ K', K = K' + 1 := ⟨K - 1, by omega⟩
    obtain rfl : i = 5 := by omega
    show wbX1_waysDown_1 (wpX1_waysDown K) K t li lj Q
    refine ⟨fun _ => fin K a li lj (by omega) (fun x hx => ?_) e2 e, fun x => absurd (show nI 5 ≤ li 6 by rw [e6]; exact nI_le (by omega) (by omega)) x⟩
    cases q : hb (lj 4) x with
    | false => rfl
    | true => have := cp_pos (hb (lj 4)) q hx; omega
  | succ d ih =>
    intro i K a li lj hd hK hcp hB e2 e e6
    obtain ⟨K, rfl⟩ : ∃ K', K = K' + 1 := ⟨K - 1, by omega⟩
    show wbX1_waysDown_1 (wpX1_waysDown K) K t li lj Q
    unfold wbX1_waysDown_1
    rw [e6]
    refine ⟨fun x => absurd x (show ¬ nI 5 ≤ nI i from nI_ge (by omega) (by omega)), fun _ v3 f3 => ⟨fun z => fin K a li lj (by omega) (fun x _ => hb_z (f3.symm.trans z) x) e2 e, fun nz => ?_⟩⟩
    rcases hb_ne (v := lj 4) with z | ⟨j, hj, j1, j0⟩
    · exact absurd (f3.trans ((hs_cmp0 _ _).mpr z)) nz
    refine hw_lowest hj j1 j0 (by omega) ⟨vp_in_nI hj (by decide), fun v6 f6 v7 f7 v8 f8 v9 f9 v10 f10 => ?_⟩
    have f6 : v6 = lN (B j) := f6.trans ((congrArg (t.2.2.2 4) (nI_clamp (by omega))).trans (hB j hj j1))
    have rb : ∀ x, hb v9 x = (hb (lj 4) x && !decide (x = j)) := fun x => by
      have := hf_rest j1 j0 x
      rw [f9, f8]; exact this
    have rem := hw_rem (p := fun x => hb (lj 4) x = true) (B := B) j1 64
    rw [if_pos hj] at rem
    have same : hm_sum (fun x => hq_sel (hb (lj 4) x = true ∧ x ≠ j) (B x)) 64 = hm_sum (fun x => hq_sel (hb v9 x = true) (B x)) 64 := by
      refine hq_sum_eq 64 (fun x _ => ?_)
      show hq_sel (hb (lj 4) x = true ∧ x ≠ j) (B x) = hq_sel (hb v9 x = true) (B x)
      by_cases q : hb v9 x = true
      · rw [hq_sel1 q]
        rw [rb x, Bool.and_eq_true] at q
        exact hq_sel1 ⟨q.1, fun z => by rw [z, decide_eq_true rfl] at q; exact absurd q.2 (by decide)⟩
      · rw [hq_sel0 q]
        refine hq_sel0 (fun z => q ?_)
        rw [rb x, z.1, decide_eq_false z.2]; rfl
    refine ih (i + 1) K (a + B j) _ _ (by omega) (by omega) ?_ (fun x hx hv => ?_) ?_ ?_ (by show v10 = _; rw [f10]; exact hs_inc i)
    · show cp (hb v9) 64 + (i + 1) ≤ 5
      rw [show hb v9 = fun x => hb (lj 4) x && !decide (x = j) from funext rb]
      have := cp_rem (hb (lj 4)) j1 64
      rw [if_pos hj] at this; omega
    · have hv : hb v9 x = true := hv
      rw [rb x, Bool.and_eq_true] at hv
      exact hB x hx hv.1
    · show v7 = _
      rw [f7, e2, f6]; exact lN_add _ _
    · show a + B j + hm_sum (fun x => hq_sel (hb v9 x = true) (B x)) 64 = T
      rw [← same]
      have rem : hm_sum (fun x => hq_sel (hb (lj 4) x = true) (B x)) 64 = B j + hm_sum (fun x => hq_sel (hb (lj 4) x = true ∧ x ≠ j) (B x)) 64 := rem
      omega
theorem hw_waysDown {t : XT} {B : Nat → Nat} {k K : Nat} {Q : Int64 → XT → Prop} (hk : k < 64) (hp : hx_p (t.2.2.1 5 k)) (hcp : cp (hb (t.2.2.2 0 k)) 64 ≤ 5) (hB : ∀ x, x < 64 → hf_b (t.2.2.1 5) (t.2.2.2 0) k x = true → t.2.2.2 4 x = lN (B x)) (hK : 30 ≤ K) (hQ : Q (lN (hm_sum (fun x => hq_sel (hf_b (t.2.2.1 5) (t.2.2.2 0) k x = true) (B x)) 64)) t) : wqX1_waysDown K t (nI k) Q := by
  obtain ⟨K, rfl⟩ : ∃ K', K = K' + 1 := ⟨K - 1, by omega⟩
  have bk : ∀ x, hf_b (t.2.2.1 5) (t.2.2.2 0) k x = true → hb (t.2.2.2 0 k) x = true := fun x h => by
    unfold hf_b at h
    rw [Bool.and_eq_true] at h; exact h.1
  show wbX1_waysDown_0 (wpX1_waysDown K) K t (uI (fun _ => 0) 1 (nI k)) (fun _ => 0) Q
  refine hf_below hk hp (by omega) (fun v bv => ?_)
  refine hw_down_go (B := B) hQ 5 0 K 0 _ _ (by omega) (by omega) ?_ (fun x hx hv => ?_) rfl ?_ rfl
  · show cp (hb v) 64 + 0 ≤ 5
    refine Nat.le_trans ?_ hcp
    exact cp_im 64 (hb v) (hb (t.2.2.2 0 k)) (fun x => x) 64 (fun f hf => by
      have l : f < 64 := Nat.lt_of_not_le (fun q => by rw [hb_big q] at hf; exact absurd hf (by decide))
      exact ⟨f, l, bk f (by rw [← bv f l]; exact hf), rfl⟩)
  · have hv : hb v x = true := hv
    exact hB x hx (by rw [← bv x hx]; exact hv)
  · show 0 + hm_sum (fun x => hq_sel (hb v x = true) (B x)) 64 = _
    rw [Nat.zero_add]
    refine hq_sum_eq 64 (fun x hx => ?_)
    show hq_sel (hb v x = true) (B x) = _
    rw [bv x hx]
/-- the sum over the FACES but the PARTNER -/
noncomputable def hwT (t : XT) (c x : Nat) (A : Nat → Nat) : Nat := hm_sum (fun g => hq_sel (hm_faceT t g x ∧ hm_par t x ≠ nI g) (A g)) c
noncomputable def hwV (t : XT) (c s e : Nat) (A : Nat → Nat) (x : Nat) : Nat := if x = e then 1 else if hm_dim t x = hm_dim t s then hwT t c x A else hq_sel (hm_dim t x = hm_dim t e ∧ hm_low t x) (A x)
theorem hw_clamp {a : Nat} (h : a < 64) : (nI a).toNatClampNeg = a := nI_clamp (by omega)
/-- FACES of what is THERE, but the PARTNER, in the class's bits -/
theorem hw_below {t tm : XT} {L : Nat → Int32} {c k x : Nat} (hE : hcE t L c) (hM : hmE tm L c) (hL : hnL L c) (hP : hPJ t tm c) (hk : k < c) (hx : x < c) (gk : hm_gone tm k = 0) (gx : hm_gone tm x = 0) : hf_b (t.2.2.1 5) (t.2.2.2 0) k x = true ↔ (hm_faceT tm x k ∧ hm_par tm k ≠ nI x) := by
  have fT : hm_faceT tm x k ↔ hnF L k x := (hmx_faceT hM hL hx hk gx).trans ⟨fun w => w.1, fun w => ⟨w, fun z => z gk⟩⟩
  have ep : t.2.2.1 5 k = hm_par tm k := hP.1 k hk
  unfold hf_b
  rw [Bool.and_eq_true, hE.2.2.2.2.1 k x, fT, ep]
  refine ⟨fun w => ⟨w.1.2, fun z => by rw [decide_eq_true z] at w; exact absurd w.2 (by decide)⟩, fun w => ⟨⟨hk, w.1⟩, by rw [decide_eq_false w.2]; rfl⟩⟩
theorem hw_belowF {t : XT} {L : Nat → Int32} {c k x : Nat} (hE : hcE t L c) (h : hf_b (t.2.2.1 5) (t.2.2.2 0) k x = true) : k < c ∧ hnF L k x := by
  unfold hf_b at h
  rw [Bool.and_eq_true] at h
  exact (hE.2.2.2.2.1 k x).mp h.1
