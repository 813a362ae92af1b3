/-! ===== the class: goDown, goUp, exactly ===== -/
theorem cp_rem (P : Nat → Bool) {f : Nat} (h : P f = true) : ∀ k, cp (fun i => P i && !decide (i = f)) k + (if f < k then 1 else 0) = cp P k
  | 0 => by rw [if_neg (Nat.not_lt_zero f)]; rfl
  | k + 1 => by
    have g := cp_rem P h k
    show cp (fun i => P i && !decide (i = f)) k + (if (P k && !decide (k = f)) = true then 1 else 0) + (if f < k + 1 then 1 else 0) = cp P k + (if P k = true then 1 else 0)
    by_cases q : k = f
    · subst q
      rw [if_neg (Nat.lt_irrefl k)] at g
      rw [if_pos (Nat.lt_succ_self k), h, decide_eq_true rfl, if_pos rfl, if_neg (by decide)]
      omega
    · rw [show (P k && !decide (k = f)) = P k by rw [decide_eq_false q]; simp]
      by_cases r : f < k
      · rw [if_pos r] at g; rw [if_pos (by omega : f < k + 1)]; omega
      · rw [if_neg r] at g; rw [if_neg (by omega : ¬ f < k + 1)]; omega
theorem cp_pos (P : Nat → Bool) {f k : Nat} (h : P f = true) (hf : f < k) : 0 < cp P k := by
  have := cp_rem P h k
  rw [if_pos hf] at this; omega
theorem hf_in (j : Nat) (t : XT) (v : Int64) (x : Nat) : vp_updL (t.2.2.2 3) j v x = if x = j then v else t.2.2.2 3 x := rfl
theorem hf_down_go {k : Nat} {V0 : Nat → Int} {t0 : XT} {a : Int32} {Q : XT → Prop} (ha : ¬ a = 0) (hk : k < 64) (hbk : hf_b (t0.2.2.1 5) (t0.2.2.2 0) k k = false)
    (hQ : ∀ t', hf_fr t0 t' → hf_v t' (fun c => V0 c + (if hf_b (t0.2.2.1 5) (t0.2.2.2 0) k c = true then V0 k * hf_sg (t0.2.2.1 2) (t0.2.2.2 0) c k else 0)) → Q t') :
    ∀ (d i K : Nat) (t : XT) (li : Nat → Int32) (lj : Nat → Int64), i + d = 5 → 2 * d + 10 ≤ K → hf_fr t0 t → (∀ x, hb (lj 3) x = true → x < 64 ∧ hf_b (t0.2.2.1 5) (t0.2.2.2 0) k x = true) → cp (hb (lj 3)) 64 + i ≤ 5 → hf_v t (fun c => V0 c + (if (hf_b (t0.2.2.1 5) (t0.2.2.2 0) k c && !hb (lj 3) c) = true then V0 k * hf_sg (t0.2.2.1 2) (t0.2.2.2 0) c k else 0)) → li 1 = nI k → li 2 = a → li 5 = nI i → wpX1_goDown K 1 t li lj Q := by
  have fin : ∀ (t : XT) (r : Int64), hf_fr t0 t → (∀ x, x < 64 → hb r x = false) → hf_v t (fun c => V0 c + (if (hf_b (t0.2.2.1 5) (t0.2.2.2 0) k c && !hb r c) = true then V0 k * hf_sg (t0.2.2.1 2) (t0.2.2.2 0) c k else 0)) → Q t := by
    intro t r h1 h2 h3
    refine hQ t h1 (fun c hc => ?_)
    rw [h3 c hc]
    show Int64.ofInt (V0 c + (if (hf_b (t0.2.2.1 5) (t0.2.2.2 0) k c && !hb r c) = true then _ else 0)) = _
    rw [h2 c hc, show (hf_b (t0.2.2.1 5) (t0.2.2.2 0) k c && !false) = hf_b (t0.2.2.1 5) (t0.2.2.2 0) k c from Bool.and_true _]
  intro d
  induction d with
  | zero =>
    intro i K t li lj hd hK hf h3 hc hv e1 e2 e5
    obtain ⟨K, rfl⟩ : ∃ K', K = K' + 1 := ⟨K - 1, by omega⟩
    obtain rfl : i = 5 := by omega
    show wbX1_goDown_1 (wpX1_goDown K) K t li lj Q
    refine ⟨fun _ => fin t (lj 3) hf (fun x hx => ?_) hv, fun x => absurd (show nI 5 ≤ li 5 by rw [e5]; exact nI_le (by omega) (by omega)) x⟩
    cases q : hb (lj 3) x with
    | false => rfl
    | true => have := cp_pos (hb (lj 3)) q hx; omega
  | succ d ih =>
    intro i K t li lj hd hK hf h3 hc hv e1 e2 e5
    obtain ⟨K, rfl⟩ : ∃ K', K = K' + 2 := ⟨K - 2, by omega⟩
    show wbX1_goDown_1 (wpX1_goDown (K + 1)) (K + 1) t li lj Q
    unfold wbX1_goDown_1
    rw [e1, e2, e5]
    refine ⟨fun x => absurd x (show ¬ nI 5 ≤ nI i from nI_ge (by omega) (by omega)), fun _ v3 f3 => ⟨fun z => fin t (lj 3) hf (fun x _ => hb_z (f3.symm.trans z) x) hv, fun nz => ?_⟩⟩
    rcases hb_ne (v := lj 3) with z | ⟨j, hj, j1, j0⟩
    · exact absurd (f3.trans ((hs_cmp0 _ _).mpr z)) nz
    refine hw_lowest hj j1 j0 (by omega) (fun v6 f6 v7 f7 => ⟨vp_in_nI hj (by decide), fun v8 f8 => ⟨fun x => absurd x ha, fun _ => ⟨vp_in_nI hk (by decide), fun v11 f11 => ?_⟩⟩⟩)
    have f8 : v8 = t.2.2.2 3 j := f8.trans (congrArg (t.2.2.2 3) (nI_clamp (by omega)))
    have f11 : v11 = t.2.2.2 3 k := f11.trans (congrArg (t.2.2.2 3) (nI_clamp (by omega)))
    refine hf_signOf hj hk (by omega) (fun r hr v13 f13 v14 f14 => ?_)
    rw [hf.2.2.1, hf.2.2.2 0 (by decide)] at hr
    have bj := (h3 j j1).2
    have vj : v8 = Int64.ofInt (V0 j) := by
      rw [f8, hv j hj]
      show Int64.ofInt (V0 j + (if (hf_b (t0.2.2.1 5) (t0.2.2.2 0) k j && !hb (lj 3) j) = true then _ else 0)) = _
      rw [j1, show (hf_b (t0.2.2.1 5) (t0.2.2.2 0) k j && !true) = false from Bool.and_false _, if_neg (by decide), Int.add_zero]
    have vk : v11 = Int64.ofInt (V0 k) := by
      rw [f11, hv k hk]
      show Int64.ofInt (V0 k + (if (hf_b (t0.2.2.1 5) (t0.2.2.2 0) k k && !hb (lj 3) k) = true then _ else 0)) = _
      rw [hbk, Bool.false_and, if_neg (by decide), Int.add_zero]
    show wbX1_goDown_2 (wpX1_goDown K) K t _ _ Q
    intro v15 f15
    refine ⟨vp_in_nI hj (by decide), fun t16 f16 v17 f17 => ?_⟩
    have f15 : v15 = v8 + v14 := f15
    have g15 : v15 = Int64.ofInt (V0 j + V0 k * hf_sg (t0.2.2.1 2) (t0.2.2.2 0) j k) := by
      rw [f15, f14, f13, hr, vj, vk, Int64.ofInt_add, Int64.ofInt_mul]
    have f16 : t16 = sB t 3 (vp_updL (t.2.2.2 3) j v15) := by
      rw [f16]; exact congrArg (fun n => sB t 3 (vp_updL (t.2.2.2 3) n v15)) (nI_clamp (by omega))
    have rb : ∀ x, hb v7 x = (hb (lj 3) x && !decide (x = j)) := fun x => by
      have := hf_rest j1 j0 x
      rw [f7, f6]; exact this
    refine ih (i + 1) K t16 _ _ (by omega) (by omega) ?_ (fun x hx => ?_) ?_ ?_ e1 e2 (by show v17 = _; rw [f17]; show li 5 + _ = _; rw [e5]; exact hs_inc i)
    · rw [f16]; exact hf_fr_t hf (hf_fr_B t _)
    · have hx : hb v7 x = true := hx
      rw [rb x, Bool.and_eq_true] at hx
      exact h3 x hx.1
    · show cp (hb v7) 64 + (i + 1) ≤ 5
      rw [show hb v7 = fun x => hb (lj 3) x && !decide (x = j) from funext rb]
      have := cp_rem (hb (lj 3)) j1 64
      rw [if_pos hj] at this; omega
    · intro c hc
      show t16.2.2.2 3 c = Int64.ofInt (V0 c + (if (hf_b (t0.2.2.1 5) (t0.2.2.2 0) k c && !hb v7 c) = true then V0 k * hf_sg (t0.2.2.1 2) (t0.2.2.2 0) c k else 0))
      rw [f16, hf_B3, hf_in, rb c]
      by_cases q : c = j
      · subst q
        rw [if_pos rfl, g15, bj, decide_eq_true rfl, j1]
        rfl
      · rw [if_neg q, decide_eq_false q, hv c hc]
        show Int64.ofInt (V0 c + (if (hf_b (t0.2.2.1 5) (t0.2.2.2 0) k c && !hb (lj 3) c) = true then _ else 0)) = _
        rw [show (hb (lj 3) c && !false) = hb (lj 3) c from Bool.and_true _]
theorem hf_goDown {k K : Nat} {V0 : Nat → Int} {t : XT} {a : Int32} {Q : XT → Prop} (ha : ¬ a = 0) (hk : k < 64) (hp : hx_p (t.2.2.1 5 k)) (hF : ∀ x, hb (t.2.2.2 0 k) x = true → x < k) (hc : cp (hb (t.2.2.2 0 k)) 64 ≤ 5) (hv : hf_v t V0) (hK : 30 ≤ K)
    (hQ : ∀ t', hf_fr t t' → hf_v t' (fun c => V0 c + (if hf_b (t.2.2.1 5) (t.2.2.2 0) k c = true then V0 k * hf_sg (t.2.2.1 2) (t.2.2.2 0) c k else 0)) → Q t') : wqX1_goDown K t (nI k) a Q := by
  obtain ⟨K, rfl⟩ : ∃ K', K = K' + 1 := ⟨K - 1, by omega⟩
  have bk : ∀ x, hf_b (t.2.2.1 5) (t.2.2.2 0) k x = true → hb (t.2.2.2 0 k) x = true := fun x h => by
    unfold hf_b at h
    rw [Bool.and_eq_true] at h; exact h.1
  show wbX1_goDown_0 (wpX1_goDown K) K t (uI (uI (fun _ => 0) 1 (nI k)) 2 a) (fun _ => 0) Q
  refine hf_below hk hp (by omega) (fun v bv => ?_)
  refine hf_down_go (V0 := V0) (t0 := t) ha hk ?_ hQ 5 0 K t _ _ (by omega) (by omega) (hf_fr_r t) (fun x hx => ?_) ?_ (fun c h64 => ?_) rfl rfl rfl
  · cases q : hf_b (t.2.2.1 5) (t.2.2.2 0) k k with
    | false => rfl
    | true => have := hF k (bk k q); omega
  · have hx : hb v x = true := hx
    have l : x < 64 := Nat.lt_of_not_le (fun q => by rw [hb_big q] at hx; exact absurd hx (by decide))
    exact ⟨l, by rw [← bv x l]; exact hx⟩
  · show cp (hb v) 64 + 0 ≤ 5
    refine Nat.le_trans ?_ hc
    exact cp_im 64 (hb v) (hb (t.2.2.2 0 k)) (fun x => x) 64 (fun f hf => by
      have l : f < 64 := Nat.lt_of_not_le (fun q => by rw [hb_big q] at hf; exact absurd hf (by decide))
      exact ⟨f, l, bk f (by rw [← bv f l]; exact hf), rfl⟩)
  · rw [hv c h64]
    show Int64.ofInt (V0 c) = Int64.ofInt (V0 c + (if (hf_b (t.2.2.1 5) (t.2.2.2 0) k c && !hb v c) = true then _ else 0))
    rw [bv c h64, if_neg (by cases hf_b (t.2.2.1 5) (t.2.2.2 0) k c <;> decide), Int.add_zero]
/-- up: where the PARTNER has the greater number -/
theorem hf_goUp {k K : Nat} {V0 : Nat → Int} {t : XT} {a : Int32} {Q : XT → Prop} (ha : ¬ a = 0) (hk : k < 64) (hp : hx_p (t.2.2.1 5 k)) (hv : hf_v t V0) (hK : 10 ≤ K)
    (h0 : (∀ p, p < 64 → t.2.2.1 5 k = nI p → p ≤ k) → Q t)
    (hQ : ∀ p t', p < 64 → t.2.2.1 5 k = nI p → k < p → hf_fr t t' → hf_v t' (fun c => V0 c - (if c = p then V0 k * hf_sg (t.2.2.1 2) (t.2.2.2 0) k p else 0)) → Q t') : wqX1_goUp K t (nI k) a Q := by
  obtain ⟨K, rfl⟩ : ∃ K', K = K' + 2 := ⟨K - 2, by omega⟩
  have i := vp_in_nI (n := k) (N := 64) hk (by decide)
  have ck : (nI k).toNatClampNeg = k := nI_clamp (by omega)
  show wbX1_goUp_0 (wpX1_goUp (K + 1)) (K + 1) t (uI (uI (fun _ => 0) 1 (nI k)) 2 a) (fun _ => 0) Q
  refine ⟨i, fun v1 e1 => ⟨fun lt => ?_, fun nl => ?_⟩⟩
  · have e1 : v1 = t.2.2.1 5 k := e1.trans (congrArg (t.2.2.1 5) ck)
    have lt : nI k < v1 := lt
    obtain ⟨p, hp64, ep⟩ := hx_p_in (by rw [e1]; exact hp : hx_p v1) (fun q => by
      rw [q] at lt
      have w := Int32.lt_iff_toInt_lt.mp lt
      rw [nI_toInt (by omega)] at w
      have w : (k : Int) < -1 := w
      omega)
    subst ep
    have kp : k < p := by
      have w := Int32.lt_iff_toInt_lt.mp lt
      rw [nI_toInt (by omega), nI_toInt (by omega)] at w
      omega
    have cp' : (nI p).toNatClampNeg = p := nI_clamp (by omega)
    refine ⟨vp_in_nI hp64 (by decide), fun v3 e3 => ⟨fun x => absurd x ha, fun _ => ⟨i, fun v6 e6 v7 e7 => ?_⟩⟩⟩
    have e3 : v3 = t.2.2.2 3 p := e3.trans (congrArg (t.2.2.2 3) cp')
    have e6 : v6 = t.2.2.2 3 k := e6.trans (congrArg (t.2.2.2 3) ck)
    refine hf_signOf hk hp64 (by omega) (fun r hr v9 e9 v10 e10 => ?_)
    show wbX1_goUp_1 (wpX1_goUp K) K t _ _ Q
    intro v11 e11
    refine ⟨vp_in_nI hp64 (by decide), fun t12 e12 => ?_⟩
    have e11 : v11 = v3 + v10 := e11
    have e12 : t12 = sB t 3 (vp_updL (t.2.2.2 3) p v11) := by
      rw [e12]; exact congrArg (fun n => sB t 3 (vp_updL (t.2.2.2 3) n v11)) cp'
    refine hQ p t12 hp64 e1.symm kp (by rw [e12]; exact hf_fr_B t _) (fun c hc => ?_)
    show t12.2.2.2 3 c = Int64.ofInt (V0 c - (if c = p then V0 k * hf_sg (t.2.2.1 2) (t.2.2.2 0) k p else 0))
    rw [e12, hf_B3, hf_in]
    by_cases q : c = p
    · rw [if_pos q, if_pos q, e11, e10, e9, hr, e7, e6, e3, hv p hp64, hv k hk, q, Int.sub_eq_add_neg, Int64.ofInt_add, Int64.ofInt_neg, Int64.ofInt_mul, Int64.neg_mul]
    · rw [if_neg q, if_neg q, Int.sub_zero]; exact hv c hc
  · refine h0 (fun p hp64 ep => Nat.le_of_not_lt (fun q => nl ?_))
    have e1 : v1 = t.2.2.1 5 k := e1.trans (congrArg (t.2.2.1 5) ck)
    show nI k < v1
    rw [e1, ep]; exact nI_lt (by omega) (by omega)
