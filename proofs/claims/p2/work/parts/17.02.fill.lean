/-! ===== the class: tables by SIGNS, filled exactly ===== -/
def cp (P : Nat → Bool) : Nat → Nat | 0 => 0 | k + 1 => cp P k + (if P k = true then 1 else 0)
theorem cp_nb : ∀ (k n : Nat), nb k n = cp (fun i => n.testBit i) k
  | 0, _ => rfl
  | k + 1, n => by
    rw [nb_add k 1 n, cp_nb k n]
    show cp (fun i => n.testBit i) k + (n / 2 ^ k % 2 + 0) = cp (fun i => n.testBit i) k + (if n.testBit k = true then 1 else 0)
    rw [Nat.testBit_eq_decide_div_mod_eq]
    rcases Nat.mod_two_eq_zero_or_one (n / 2 ^ k) with h | h <;> rw [h] <;> rfl
theorem cp_bc (v : Int64) : nb 64 (un v) = cp (hb v) 64 := cp_nb 64 (un v)
theorem cp_mono (P : Nat → Bool) : ∀ (d k : Nat), cp P k ≤ cp P (k + d)
  | 0, _ => Nat.le_refl _
  | d + 1, k => Nat.le_trans (cp_mono P d k) (Nat.le_add_right _ _)
theorem cp_le (P : Nat → Bool) {j k : Nat} (h : j ≤ k) : cp P j ≤ cp P k := by
  have := cp_mono P (k - j) j
  rw [Nat.add_sub_cancel' h] at this
  exact this
theorem cp_k (P : Nat → Bool) : ∀ k, cp P k ≤ k
  | 0 => Nat.le_refl 0
  | k + 1 => by
    have h := cp_k P k
    show cp P k + (if P k = true then 1 else 0) ≤ k + 1
    split <;> omega
theorem cp_z (P : Nat → Bool) {m : Nat} : ∀ (d : Nat), (∀ k, m ≤ k → P k = false) → cp P (m + d) = cp P m
  | 0, _ => rfl
  | d + 1, h => by
    show cp P (m + d) + (if P (m + d) = true then 1 else 0) = cp P m
    rw [h (m + d) (by omega), cp_z P d h]; rfl
theorem cp_del (P : Nat → Bool) (f : Nat) : ∀ k, cp P k ≤ cp (fun i => P i && !decide (i = f)) k + (if f < k then 1 else 0)
  | 0 => by show 0 ≤ _; omega
  | k + 1 => by
    have h := cp_del P f k
    show cp P k + (if P k = true then 1 else 0) ≤ cp (fun i => P i && !decide (i = f)) k + (if (P k && !decide (k = f)) = true then 1 else 0) + (if f < k + 1 then 1 else 0)
    by_cases q : k = f
    · subst q
      rw [if_pos (Nat.lt_succ_self k)]
      rw [if_neg (Nat.lt_irrefl k)] at h
      have : (if P k = true then 1 else 0) ≤ 1 := by split <;> omega
      omega
    · rw [show (P k && !decide (k = f)) = P k by rw [decide_eq_false q]; simp]
      by_cases r : f < k
      · rw [if_pos r] at h; rw [if_pos (by omega : f < k + 1)]; omega
      · rw [if_neg r] at h; rw [if_neg (by omega : ¬ f < k + 1)]; omega
theorem cp_im : ∀ (L : Nat) (P R : Nat → Bool) (g : Nat → Nat) (m : Nat), (∀ f, P f = true → ∃ l, l < L ∧ R l = true ∧ g l = f) → cp P m ≤ cp R L
  | 0, P, _, _, m, h => by
    have z : ∀ f, P f = false := fun f => by
      cases q : P f with
      | false => rfl
      | true => obtain ⟨l, hl, _⟩ := h f q; omega
    have := cp_z P (m := 0) m (fun k _ => z k)
    rw [Nat.zero_add] at this
    rw [this]; exact Nat.le_refl 0
  | L + 1, P, R, g, m, h => by
    show cp P m ≤ cp R L + (if R L = true then 1 else 0)
    by_cases r : R L = true
    · rw [if_pos r]
      have h1 := cp_del P (g L) m
      have h2 := cp_im L (fun i => P i && !decide (i = g L)) R g m (fun f hf => by
        have hf : (P f && !decide (f = g L)) = true := hf
        rw [Bool.and_eq_true] at hf
        obtain ⟨l, hl, q1, q2⟩ := h f hf.1
        have ne : ¬ f = g L := fun q => by
          have := hf.2
          rw [decide_eq_true q] at this
          exact absurd this (by decide)
        have ll : l ≠ L := fun q => ne (by rw [← q2, q])
        exact ⟨l, by omega, q1, q2⟩)
      have : (if g L < m then 1 else 0) ≤ 1 := by split <;> omega
      omega
    · rw [if_neg r]
      exact cp_im L P R g m (fun f hf => by
        obtain ⟨l, hl, q1, q2⟩ := h f hf
        have ll : l ≠ L := fun q => r (by rw [← q]; exact q1)
        exact ⟨l, by omega, q1, q2⟩)
theorem hc_deg {t : XT} {k : Nat} (h : hc_fa t k) : ∃ d, d < 5 ∧ t.2.2.1 3 k = nI d ∧ cp (hb (t.2.2.2 0 k)) k ≤ d + 1 := by
  obtain ⟨s, d, g, a1, a2, a3, a4, a5, a6⟩ := h
  refine ⟨d, a2, a4, ?_⟩
  rw [← a5, cp_nb]
  exact cp_im 8 (hb (t.2.2.2 0 k)) (fun i => s.testBit i) g k (fun f hf => (a6 f hf).2)
theorem hc_signOf {t : XT} {f s K : Nat} {Q : Int32 → XT → Prop} (hf : f < 64) (hs : s < 64) (hK : 2 ≤ K) (h0 : Q 0 t) (h1 : hb (t.2.2.2 0 s) f = true → Q 1 t ∧ Q (-1) t) : wqX9_signOf K t (nI f) (nI s) Q := by
  obtain ⟨K, rfl⟩ : ∃ K', K = K' + 1 := ⟨K - 1, by omega⟩
  have i := vp_in_nI (n := s) (N := 64) hs (by decide)
  have j := vp_in_nI (n := f) (N := 64) hf (by decide)
  show wbX9_signOf_0 (wpX9_signOf K) K t (uI (uI (fun _ => 0) 1 (nI f)) 2 (nI s)) (fun _ => 0) Q
  refine ⟨i, fun v1 e1 => ?_⟩
  have e1 : v1 = t.2.2.2 0 s := e1.trans (congrArg (t.2.2.2 0) (nI_clamp (by omega)))
  subst e1
  refine hw_isIn hf (by omega) (fun b => ⟨fun _ => ⟨i, fun _ _ => ⟨j, fun _ _ _ _ _ _ => ⟨i, fun _ _ _ _ _ _ => hm_bitCount (by omega) (fun _ _ => ⟨fun _ => (h1 b).2, fun _ => (h1 b).1⟩)⟩⟩⟩, fun x => absurd x (by decide)⟩) (fun _ => ⟨fun x => absurd rfl x, fun _ => h0⟩)
theorem hc_put {t : XT} {a b r c K : Nat} {v : Int64} {Q : XT → Prop} (hM : hx_ab t a b) (hr : r < a) (hc : c < b) (hK : 2 ≤ K) (h : Q (sB t 7 (vp_updL (t.2.2.2 7) (r * b + c) v))) : wqX5_put K t (nI r) (nI c) v Q := by
  obtain ⟨K, rfl⟩ : ∃ K', K = K' + 1 := ⟨K - 1, by omega⟩
  obtain ⟨ha, hb, hab, ea, eb⟩ := hM
  have n1 : ¬ nI r < 0 := nI_pos (by omega)
  have n2 : ¬ nI a ≤ nI r := nI_ge hr (by omega)
  have n3 : ¬ nI c < 0 := nI_pos (by omega)
  have n4 : ¬ nI b ≤ nI c := nI_ge hc (by omega)
  show wbX5_put_0 (wpX5_put K) K t (uI (uI (fun _ => 0) 1 (nI r)) 2 (nI c)) (uI (fun _ => 0) 3 v) Q
  unfold wbX5_put_0
  rw [ea, eb]
  refine ⟨fun x => absurd x n1, fun _ => ⟨fun x => absurd x n2, fun _ => ⟨fun x => absurd x n3, fun _ => ⟨fun x => absurd x n4, fun _ v5 f5 v6 f6 => ?_⟩⟩⟩⟩
  have f6 := hz_cellI (r := r) (c := c) f5 f6
  subst f6
  have hrc := hx_at hr hc hab
  refine ⟨vp_in_nI hrc (by decide), fun t7 e7 => ?_⟩
  rw [nI_clamp (by omega)] at e7
  rw [e7]; exact h
/-- the row r of the table: its squares are N together at most -/
def hc_row (t : XT) (b N r : Nat) : Prop := ∃ g : Nat → Int, (∀ c, c < b → (t.2.2.2 7 (r * b + c)).toInt = g c) ∧ ex_sq b g ≤ N
theorem ex_sq_eq : ∀ (n : Nat) (b b' : Nat → Int), (∀ j, j < n → b j = b' j) → ex_sq n b = ex_sq n b'
  | 0, _, _, _ => rfl
  | n + 1, b, b', h => by
    show ex_sq n b + b n * b n = ex_sq n b' + b' n * b' n
    rw [ex_sq_eq n b b' (fun j hj => h j (by omega)), h n (by omega)]
theorem hc_row_put {t : XT} {b N r x y : Nat} {v : Int64} (h : hc_row t b N r) (hy : y < b) (hne : r ≠ x) : hc_row (sB t 7 (vp_updL (t.2.2.2 7) (x * b + y) v)) b N r := by
  obtain ⟨g, h1, h2⟩ := h
  refine ⟨g, fun c hc => ?_, h2⟩
  show (vp_updL (t.2.2.2 7) (x * b + y) v (r * b + c)).toInt = g c
  have ne : r * b + c ≠ x * b + y := by
    intro e
    have b0 : 0 < b := by omega
    have e1 : (r * b + c) / b = (x * b + y) / b := by rw [e]
    rw [Nat.mul_comm r b, Nat.mul_comm x b, Nat.mul_add_div b0, Nat.mul_add_div b0, Nat.div_eq_of_lt hc, Nat.div_eq_of_lt hy] at e1
    omega
  rw [show vp_updL (t.2.2.2 7) (x * b + y) v (r * b + c) = t.2.2.2 7 (r * b + c) from if_neg ne]
  exact h1 c hc
