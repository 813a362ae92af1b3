/-! ===== minors: one step of the elimination; the class's clearing, exactly ===== -/
theorem eb_step {n a i c : Nat} {N D : Int} {w : ex n} {C : Nat → Bool} {X E E' : Nat → Nat → Int} (hI : eb_inv n a i c N D w C X E) (hN : 0 ≤ N) (hi : i < a) (hc : c < n) (hp : E i c ≠ 0) (hE : ∀ r j, i < r → r < a → j < n → E i c * E r j - E r c * E i j = D * E' r j) (hE0 : ∀ r j, i < r → r < a → j < c + 1 → E' r j = 0) : eb_inv n a (i + 1) (c + 1) N (E i c) (ex_w n (X i) w) (fun k => C k || decide (k = c)) X E' := by
  obtain ⟨hD, hw, hn, h3, h4, h5, h6⟩ := hI
  have cc : C c = false := by
    cases q : C c with
    | false => rfl
    | true => exact absurd (h5 c q) (by omega)
  refine ⟨hp, ?_, ?_, fun r hr hra => ?_, fun r j hr hra hj => hE0 r j (by omega) hra hj, fun j hj => ?_, fun r hr hra => h6 r (by omega) hra⟩
  · have z1 := ex_co_1 n C (fun k => C k || decide (k = c)) (E i) c w hc cc (fun k _ hk => h4 i k (Nat.le_refl i) hi (h5 k hk)) (fun _ _ => rfl)
    have e1 := congrArg (ex_co n (fun k => C k || decide (k = c))) (h3 i (Nat.le_refl i) hi)
    rw [ex_co_mul] at e1
    generalize ex_co n (fun k => C k || decide (k = c)) (ex_w n (X i) w) = y at e1 ⊢
    have g : D * y = D * E i c ∨ D * y = D * (-E i c) := by
      rcases z1 with z | z <;> rcases hw with hw | hw <;> rw [hw] at z <;> rw [z] at e1
      · exact Or.inl (by rw [e1, Int.mul_comm])
      · exact Or.inr (by rw [e1, Int.mul_neg, Int.mul_neg, Int.mul_comm])
      · exact Or.inr (by rw [e1, Int.mul_neg, Int.mul_comm])
      · exact Or.inl (by rw [e1, Int.mul_neg, Int.neg_neg, Int.mul_comm])
    rcases g with g | g
    · exact Or.inl (Int.eq_of_mul_eq_mul_left hD g)
    · exact Or.inr (Int.eq_of_mul_eq_mul_left hD g)
  · rw [Int.pow_succ, Int.mul_comm]
    exact ex_norm1 n (X i) w N (N ^ i) (h6 i (Nat.le_refl i) hi) hn hN
  · have hir : i < r := by omega
    refine ex_mul_can n D _ _ hD (ex_ext n _ _ (fun K => ?_))
    have a0 := congrArg (ex_co n K) (ex_w_lin n (E' r) (E' r) (fun j => D * E' r j) D 0 (ex_w n (X i) w) (fun j _ => by omega))
    have a1 := congrArg (ex_co n K) (ex_w_lin n (E r) (E i) (fun j => D * E' r j) (E i c) (-(E r c)) (ex_w n (X i) w) (fun j hj => by rw [← hE r j hir hra hj, Int.neg_mul]; omega))
    have a2 := congrArg (ex_co n K) (ex_anti n (E r) (X i) w)
    have a3 := congrArg (ex_co n K) (ex_anti n (E i) (X i) w)
    have a4 := congrArg (ex_co n K) (ex_anti n (X i) (X r) w)
    rw [← h3 r (by omega) hra, ex_w_mul] at a2
    rw [← h3 i (Nat.le_refl i) hi, ex_w_mul] at a3
    have a5 := ex_self n (X i) w K
    simp only [ex_co_add, ex_co_mul] at a0 a1 a2 a3 a4 ⊢
    rw [a0] at a1
    rw [a2, a3, a5, a4] at a1
    simp only [Int.mul_neg, Int.neg_one_mul, Int.mul_zero, Int.neg_zero, Int.add_zero, Int.neg_neg, Int.zero_mul] at a1
    rw [a1, Int.mul_left_comm]
  · have hj : (C j || decide (j = c)) = true := hj
    by_cases q : j = c
    · omega
    · rw [decide_eq_false q, Bool.or_false] at hj
      exact Nat.lt_succ_of_lt (h5 j hj)
/-- the long at each place is the number -/
def hx_E (t : XT) (a b : Nat) (E : Nat → Nat → Int) : Prop := ∀ r c, r < a → c < b → (t.2.2.2 8 (r * b + c)).toInt = E r c
theorem hx_E_put {t : XT} {a b x y : Nat} {E : Nat → Nat → Int} {v : Int64} (h : hx_E t a b E) (hy : y < b) {e : Int} (hv : v.toInt = e) : hx_E (sB t 8 (vp_updL (t.2.2.2 8) (x * b + y) v)) a b (fun r c => if r = x ∧ c = y then e else E r c) := by
  intro r c hr hc
  show (vp_updL (t.2.2.2 8) (x * b + y) v (r * b + c)).toInt = if r = x ∧ c = y then e else E r c
  by_cases q : r = x ∧ c = y
  · rw [if_pos q, q.1, q.2, show vp_updL (t.2.2.2 8) (x * b + y) v (x * b + y) = v from if_pos rfl]; exact hv
  · rw [if_neg q]
    have ne : r * b + c ≠ x * b + y := by
      intro e
      have b0 : 0 < b := by omega
      have e1 : (r * b + c) / b = (x * b + y) / b := by rw [e]
      rw [Nat.mul_comm r b, Nat.mul_comm x b, Nat.mul_add_div b0, Nat.mul_add_div b0, Nat.div_eq_of_lt hc, Nat.div_eq_of_lt hy] at e1
      have e2 : r = x := by omega
      subst e2
      exact q ⟨rfl, by omega⟩
    rw [show vp_updL (t.2.2.2 8) (x * b + y) v (r * b + c) = t.2.2.2 8 (r * b + c) from if_neg ne]
    exact h r c hr hc
theorem hx_E_of {t : XT} {a b : Nat} {E E' : Nat → Nat → Int} (h : hx_E t a b E) (e : ∀ r c, r < a → c < b → E r c = E' r c) : hx_E t a b E' := fun r c hr hc => (h r c hr hc).trans (e r c hr hc)
/-- no product runs over -/
theorem hx_mul64 {x y : Int64} {p q : Int} (hx : x.toInt = p) (hy : y.toInt = q) (h : -9223372036854775808 ≤ p * q ∧ p * q < 9223372036854775808) : (x * y).toInt = p * q := by
  rw [Int64.toInt_mul, hx, hy]
  exact Int.bmod_eq_of_le (by omega) (by omega)
theorem hx_div64 {x y : Int64} {m d : Int} (hx : x.toInt = d * m) (hy : y.toInt = d) (hd : d ≠ 0) (hm : -9223372036854775808 ≤ m ∧ m < 9223372036854775808) : (x / y).toInt = m := by
  rw [Int64.toInt_div, hx, hy, Int.mul_tdiv_cancel_left m hd]
  exact Int.bmod_eq_of_le (by omega) (by omega)
/-- what is square below has its product below -/
theorem hx_prod {x y B : Int} (hx : x * x ≤ B) (hy : y * y ≤ B) : -B ≤ x * y ∧ x * y ≤ B := by
  have p := ex_pos 0 (x - y : Int)
  have q := ex_pos 0 (x + y : Int)
  have p : 0 ≤ (x - y) * (x - y) := p
  have q : 0 ≤ (x + y) * (x + y) := q
  rw [Int.sub_mul, Int.mul_sub, Int.mul_sub] at p
  rw [Int.add_mul, Int.mul_add, Int.mul_add] at q
  rw [Int.mul_comm y x] at p q
  omega
