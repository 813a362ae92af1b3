/-! ===== pour as an elimination: rows of PAIRS with 1 or -1 at their lowers, 0 at those gone through before ===== -/
/-- v is what is left of the row v0 behind the paired rows, whose wedge is w and whose lowers are C -/
def ef (n : Nat) (w : ex n) (C : Nat → Bool) (v0 v : Nat → Int) : Prop := ex_w n v w = ex_w n v0 w ∧ ∀ c, c < n → C c = true → v c = 0
theorem ef_mm (a b : Int) : (a * b) * (a * b) = (a * a) * (b * b) := by
  rw [Int.mul_assoc, Int.mul_left_comm b a b, ← Int.mul_assoc]
theorem ef_bound {n : Nat} {w : ex n} {C : Nat → Bool} {v0 v : Nat → Int} {N M : Int} (h : ef n w C v0 v) (hD : ex_co n C w * ex_co n C w = 1) (hN : ex_sq n v0 ≤ N) (hM : ex_dot n w w ≤ M) {c : Nat} (hc : c < n) : v c * v c ≤ N * M := by
  have N0 : 0 ≤ N := Int.le_trans (ex_sq_pos n v0) hN
  have M0 : 0 ≤ M := Int.le_trans (ex_pos n w) hM
  cases q : C c with
  | true =>
    rw [h.2 c hc q, Int.mul_zero]
    exact Int.mul_nonneg N0 M0
  | false =>
    have s := ex_co_sq n (fun j => C j || decide (j = c)) (ex_w n v w)
    have t := ex_norm1 n v0 w N M hN hM N0
    rw [h.1] at s
    have e : ex_co n (fun j => C j || decide (j = c)) (ex_w n v0 w) * ex_co n (fun j => C j || decide (j = c)) (ex_w n v0 w) = v c * v c := by
      rw [← h.1]
      have z : (v c * ex_co n C w) * (v c * ex_co n C w) = v c * v c := by
        rw [ef_mm, hD, Int.mul_one]
      rcases ex_co_1 n C (fun j => C j || decide (j = c)) v c w hc q (fun j hj hC => h.2 j hj hC) (fun _ _ => rfl) with x | x
      · rw [x]; exact z
      · rw [x, Int.neg_mul_neg]; exact z
    rw [e] at s
    exact Int.le_trans s t
theorem ef_start (n : Nat) (w : ex n) (v : Nat → Int) : ef n w (fun _ => false) v v := ⟨rfl, fun _ _ h => absurd (show false = true from h) (by decide)⟩
theorem ef_unit {n f : Nat} {w : ex n} {C : Nat → Bool} {p : Nat → Int} (hD : ex_co n C w * ex_co n C w = 1) (hf : f < n) (hCf : C f = false) (hp : ∀ c, c < n → C c = true → p c = 0) (he : p f * p f = 1) : ex_co n (fun j => C j || decide (j = f)) (ex_w n p w) * ex_co n (fun j => C j || decide (j = f)) (ex_w n p w) = 1 := by
  have z : (p f * ex_co n C w) * (p f * ex_co n C w) = 1 := by
    rw [ef_mm, hD, he]; rfl
  rcases ex_co_1 n C (fun j => C j || decide (j = f)) p f w hf hCf hp (fun _ _ => rfl) with x | x
  · rw [x]; exact z
  · rw [x, Int.neg_mul_neg]; exact z
theorem ef_step {n f : Nat} {w : ex n} {C : Nat → Bool} {v0 v v' p : Nat → Int} (h : ef n w C v0 v) (hf : f < n) (hp : ∀ c, c < n → C c = true → p c = 0) (he : p f * p f = 1) (hv : ∀ c, c < n → v' c = v c - v f * p f * p c) : ef n (ex_w n p w) (fun j => C j || decide (j = f)) v0 v' := by
  refine ⟨?_, fun c hc hC => ?_⟩
  · have l := ex_w_lin n v p v' 1 (-(v f * p f)) (ex_w n p w) (fun j hj => by rw [hv j hj, Int.one_mul, Int.neg_mul, Int.sub_eq_add_neg])
    rw [l]
    refine ex_ext n _ _ (fun D => ?_)
    rw [ex_co_add, ex_co_mul, ex_co_mul, ex_self, Int.mul_zero, Int.add_zero, Int.one_mul, ex_anti n v p w, h.1, ex_anti n v0 p w]
  · have hC : (C c || decide (c = f)) = true := hC
    rw [hv c hc]
    rcases Bool.or_eq_true _ _ |>.mp hC with q | q
    · rw [h.2 c hc q, hp c hc q, Int.mul_zero, Int.sub_zero]
    · have q := of_decide_eq_true q
      subst q
      rw [Int.mul_assoc, he, Int.mul_one, Int.sub_self]
/-- a row that the lowers gone through don't reach stays as it is -/
theorem ef_norm {n : Nat} {w : ex n} {p : Nat → Int} {N M : Int} (hN : ex_sq n p ≤ N) (hM : ex_dot n w w ≤ M) : ex_dot n (ex_w n p w) (ex_w n p w) ≤ N * M :=
  ex_norm1 n p w N M hN hM (Int.le_trans (ex_sq_pos n p) hN)
