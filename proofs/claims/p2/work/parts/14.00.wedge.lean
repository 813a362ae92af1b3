/-! ===== minors: what rows span together, as an exterior algebra by recursion; Hadamard ===== -/
def ex : Nat → Type | 0 => Int | n + 1 => ex n × ex n
def ex_dot : (n : Nat) → ex n → ex n → Int | 0, v, w => (show Int from v) * (show Int from w) | n + 1, v, w => ex_dot n v.1 w.1 + ex_dot n v.2 w.2
def ex_add : (n : Nat) → ex n → ex n → ex n | 0, v, w => (show Int from v) + (show Int from w) | n + 1, v, w => (ex_add n v.1 w.1, ex_add n v.2 w.2)
def ex_mul : (n : Nat) → Int → ex n → ex n | 0, c, w => c * (show Int from w) | n + 1, c, w => (ex_mul n c w.1, ex_mul n c w.2)
def ex_w : (n : Nat) → (Nat → Int) → ex n → ex n | 0, _, _ => (0 : Int) | n + 1, b, w => (ex_w n b w.1, ex_add n (ex_mul n (b n) w.1) (ex_mul n (-1) (ex_w n b w.2)))
def ex_i : (n : Nat) → (Nat → Int) → ex n → ex n | 0, _, _ => (0 : Int) | n + 1, b, w => (ex_add n (ex_i n b w.1) (ex_mul n (b n) w.2), ex_mul n (-1) (ex_i n b w.2))
def ex_sq : Nat → (Nat → Int) → Int | 0, _ => 0 | n + 1, b => ex_sq n b + b n * b n
def ex_co : (n : Nat) → (Nat → Bool) → ex n → Int | 0, _, w => w | n + 1, C, w => if C n then ex_co n C w.2 else ex_co n C w.1
theorem ex_dot_comm : ∀ (n : Nat) (v w : ex n), ex_dot n v w = ex_dot n w v
  | 0, v, w => Int.mul_comm _ _
  | n + 1, v, w => by
    show ex_dot n v.1 w.1 + ex_dot n v.2 w.2 = ex_dot n w.1 v.1 + ex_dot n w.2 v.2
    rw [ex_dot_comm n v.1, ex_dot_comm n v.2]
theorem ex_dot_add : ∀ (n : Nat) (u v w : ex n), ex_dot n (ex_add n u v) w = ex_dot n u w + ex_dot n v w
  | 0, _, _, _ => Int.add_mul _ _ _
  | n + 1, u, v, w => by
    show ex_dot n (ex_add n u.1 v.1) w.1 + ex_dot n (ex_add n u.2 v.2) w.2 = (ex_dot n u.1 w.1 + ex_dot n u.2 w.2) + (ex_dot n v.1 w.1 + ex_dot n v.2 w.2)
    rw [ex_dot_add n, ex_dot_add n]; omega
theorem ex_dot_mul : ∀ (n : Nat) (c : Int) (v w : ex n), ex_dot n (ex_mul n c v) w = c * ex_dot n v w
  | 0, _, _, _ => Int.mul_assoc _ _ _
  | n + 1, c, v, w => by
    show ex_dot n (ex_mul n c v.1) w.1 + ex_dot n (ex_mul n c v.2) w.2 = c * (ex_dot n v.1 w.1 + ex_dot n v.2 w.2)
    rw [ex_dot_mul n, ex_dot_mul n, Int.mul_add]
theorem ex_dot_add' (n : Nat) (u v w : ex n) : ex_dot n w (ex_add n u v) = ex_dot n w u + ex_dot n w v := by
  rw [ex_dot_comm, ex_dot_add, ex_dot_comm n u, ex_dot_comm n v]
theorem ex_dot_mul' (n : Nat) (c : Int) (v w : ex n) : ex_dot n w (ex_mul n c v) = c * ex_dot n w v := by
  rw [ex_dot_comm, ex_dot_mul, ex_dot_comm n v]
theorem ex_adj : ∀ (n : Nat) (b : Nat → Int) (v w : ex n), ex_dot n (ex_w n b v) w = ex_dot n v (ex_i n b w)
  | 0, _, v, w => by
    show (0 : Int) * _ = (show Int from v) * 0
    rw [Int.zero_mul, Int.mul_zero]
  | n + 1, b, v, w => by
    show ex_dot n (ex_w n b v.1) w.1 + ex_dot n (ex_add n (ex_mul n (b n) v.1) (ex_mul n (-1) (ex_w n b v.2))) w.2 = ex_dot n v.1 (ex_add n (ex_i n b w.1) (ex_mul n (b n) w.2)) + ex_dot n v.2 (ex_mul n (-1) (ex_i n b w.2))
    rw [ex_dot_add, ex_dot_mul, ex_dot_mul, ex_dot_add', ex_dot_mul', ex_dot_mul', ex_adj n b v.1, ex_adj n b v.2]
    omega
theorem ex_pos : ∀ (n : Nat) (w : ex n), 0 ≤ ex_dot n w w
  | 0, w => by
    show 0 ≤ (show Int from w) * (show Int from w)
    rcases Int.le_total 0 (show Int from w) with h | h
    · exact Int.mul_nonneg h h
    · exact Int.mul_nonneg_of_nonpos_of_nonpos h h
  | n + 1, w => Int.add_nonneg (ex_pos n w.1) (ex_pos n w.2)
/-- the sum of both squares -/
theorem ex_clif : ∀ (n : Nat) (b : Nat → Int) (w : ex n), ex_dot n (ex_w n b w) (ex_w n b w) + ex_dot n (ex_i n b w) (ex_i n b w) = ex_sq n b * ex_dot n w w
  | 0, _, w => by
    show (0 : Int) * 0 + 0 * 0 = 0 * _
    rw [Int.zero_mul, Int.zero_mul]; rfl
  | n + 1, b, w => by
    have h1 := ex_clif n b w.1
    have h2 := ex_clif n b w.2
    have a := ex_adj n b w.2 w.1
    have a' : ex_dot n w.1 (ex_w n b w.2) = ex_dot n w.2 (ex_i n b w.1) := by rw [ex_dot_comm]; exact a
    have a'' : ex_dot n (ex_i n b w.1) w.2 = ex_dot n w.2 (ex_i n b w.1) := ex_dot_comm _ _ _
    show (ex_dot n (ex_w n b w.1) (ex_w n b w.1) + ex_dot n (ex_add n (ex_mul n (b n) w.1) (ex_mul n (-1) (ex_w n b w.2))) (ex_add n (ex_mul n (b n) w.1) (ex_mul n (-1) (ex_w n b w.2)))) + (ex_dot n (ex_add n (ex_i n b w.1) (ex_mul n (b n) w.2)) (ex_add n (ex_i n b w.1) (ex_mul n (b n) w.2)) + ex_dot n (ex_mul n (-1) (ex_i n b w.2)) (ex_mul n (-1) (ex_i n b w.2))) = (ex_sq n b + b n * b n) * (ex_dot n w.1 w.1 + ex_dot n w.2 w.2)
    simp only [ex_dot_add, ex_dot_add', ex_dot_mul, ex_dot_mul']
    have e : (ex_sq n b + b n * b n) * (ex_dot n w.1 w.1 + ex_dot n w.2 w.2) = (ex_sq n b * ex_dot n w.1 w.1 + ex_sq n b * ex_dot n w.2 w.2) + (b n * (b n * ex_dot n w.1 w.1) + b n * (b n * ex_dot n w.2 w.2)) := by
      rw [Int.add_mul, Int.mul_add, Int.mul_add, Int.mul_assoc, Int.mul_assoc]
    rw [e, ← h1, ← h2, a', a'', ex_dot_comm n (ex_w n b w.2) w.1, a']
    simp only [Int.mul_add, Int.neg_one_mul, Int.mul_neg, Int.neg_neg]
    omega
theorem ex_had (n : Nat) (b : Nat → Int) (w : ex n) : ex_dot n (ex_w n b w) (ex_w n b w) ≤ ex_sq n b * ex_dot n w w := by
  have h := ex_clif n b w
  have p := ex_pos n (ex_i n b w)
  omega
theorem ex_sq_pos : ∀ (n : Nat) (b : Nat → Int), 0 ≤ ex_sq n b
  | 0, _ => Int.le_refl 0
  | n + 1, b => Int.add_nonneg (ex_sq_pos n b) (ex_pos 0 (b n))
theorem ex_co_sq : ∀ (n : Nat) (C : Nat → Bool) (w : ex n), ex_co n C w * ex_co n C w ≤ ex_dot n w w
  | 0, _, _ => Int.le_refl _
  | n + 1, C, w => by
    have h1 := ex_pos n w.1
    have h2 := ex_pos n w.2
    show (if C n then ex_co n C w.2 else ex_co n C w.1) * (if C n then ex_co n C w.2 else ex_co n C w.1) ≤ ex_dot n w.1 w.1 + ex_dot n w.2 w.2
    by_cases c : C n = true
    · rw [if_pos c]; have := ex_co_sq n C w.2; omega
    · rw [if_neg c]; have := ex_co_sq n C w.1; omega
theorem ex_co_add : ∀ (n : Nat) (C : Nat → Bool) (v w : ex n), ex_co n C (ex_add n v w) = ex_co n C v + ex_co n C w
  | 0, _, _, _ => rfl
  | n + 1, C, v, w => by
    show (if C n then ex_co n C (ex_add n v.2 w.2) else ex_co n C (ex_add n v.1 w.1)) = (if C n then ex_co n C v.2 else ex_co n C v.1) + (if C n then ex_co n C w.2 else ex_co n C w.1)
    by_cases c : C n = true
    · rw [if_pos c, if_pos c, if_pos c, ex_co_add n]
    · rw [if_neg c, if_neg c, if_neg c, ex_co_add n]
theorem ex_co_mul : ∀ (n : Nat) (C : Nat → Bool) (x : Int) (w : ex n), ex_co n C (ex_mul n x w) = x * ex_co n C w
  | 0, _, _, _ => rfl
  | n + 1, C, x, w => by
    show (if C n then ex_co n C (ex_mul n x w.2) else ex_co n C (ex_mul n x w.1)) = x * (if C n then ex_co n C w.2 else ex_co n C w.1)
    by_cases c : C n = true
    · rw [if_pos c, if_pos c, ex_co_mul n]
    · rw [if_neg c, if_neg c, ex_co_mul n]
theorem ex_co_0 : ∀ (n : Nat) (C : Nat → Bool) (b : Nat → Int) (w : ex n), (∀ j, j < n → C j = true → b j = 0) → ex_co n C (ex_w n b w) = 0
  | 0, _, _, _, _ => rfl
  | n + 1, C, b, w, h => by
    show (if C n then ex_co n C (ex_add n (ex_mul n (b n) w.1) (ex_mul n (-1) (ex_w n b w.2))) else ex_co n C (ex_w n b w.1)) = 0
    have h' : ∀ j, j < n → C j = true → b j = 0 := fun j hj => h j (by omega)
    by_cases c : C n = true
    · rw [if_pos c, ex_co_add, ex_co_mul, ex_co_mul, h n (by omega) c, ex_co_0 n C b w.2 h', Int.zero_mul, Int.mul_zero]; rfl
    · rw [if_neg c]; exact ex_co_0 n C b w.1 h'
theorem ex_co_C : ∀ (n : Nat) (C D : Nat → Bool) (w : ex n), (∀ j, j < n → C j = D j) → ex_co n C w = ex_co n D w
  | 0, _, _, _, _ => rfl
  | n + 1, C, D, w, h => by
    show (if C n then ex_co n C w.2 else ex_co n C w.1) = (if D n then ex_co n D w.2 else ex_co n D w.1)
    rw [h n (by omega), ex_co_C n C D w.1 (fun j hj => h j (by omega)), ex_co_C n C D w.2 (fun j hj => h j (by omega))]
/-- a row that is 0 where the others have their places: what it adds at a place of its own -/
theorem ex_co_1 : ∀ (n : Nat) (C D : Nat → Bool) (b : Nat → Int) (c : Nat) (w : ex n), c < n → C c = false → (∀ j, j < n → C j = true → b j = 0) → (∀ j, j < n → D j = (C j || decide (j = c))) → ex_co n D (ex_w n b w) = b c * ex_co n C w ∨ ex_co n D (ex_w n b w) = -(b c * ex_co n C w)
  | 0, _, _, _, c, _, hc, _, _, _ => absurd hc (by omega)
  | n + 1, C, D, b, c, w, hc, hC, h0, hD => by
    show (if D n then ex_co n D (ex_add n (ex_mul n (b n) w.1) (ex_mul n (-1) (ex_w n b w.2))) else ex_co n D (ex_w n b w.1)) = b c * (if C n then ex_co n C w.2 else ex_co n C w.1) ∨ (if D n then ex_co n D (ex_add n (ex_mul n (b n) w.1) (ex_mul n (-1) (ex_w n b w.2))) else ex_co n D (ex_w n b w.1)) = -(b c * (if C n then ex_co n C w.2 else ex_co n C w.1))
    have h0' : ∀ j, j < n → C j = true → b j = 0 := fun j hj => h0 j (by omega)
    have hD' : ∀ j, j < n → D j = (C j || decide (j = c)) := fun j hj => hD j (by omega)
    by_cases e : c = n
    · subst e
      have d : D c = true := by rw [hD c (by omega), hC]; simp
      have nc : ¬ C c = true := by rw [hC]; decide
      have hDC : ∀ j, j < c → D j = C j := fun j hj => by
        rw [hD j (by omega), show decide (j = c) = false from decide_eq_false (by omega), Bool.or_false]
      rw [if_pos d, if_neg nc, ex_co_add, ex_co_mul, ex_co_mul, ex_co_0 c D b w.2 (fun j hj hx => h0 j (by omega) (by rw [← hDC j hj]; exact hx)), ex_co_C c D C w.1 hDC, Int.mul_zero, Int.add_zero]
      exact Or.inl rfl
    · have hcn : c < n := by omega
      have dn : D n = C n := by
        rw [hD n (by omega), show decide (n = c) = false from decide_eq_false (by omega), Bool.or_false]
      by_cases q : C n = true
      · have d : D n = true := dn.trans q
        rw [if_pos d, if_pos q, ex_co_add, ex_co_mul, ex_co_mul, h0 n (by omega) q, Int.zero_mul, Int.zero_add, Int.neg_one_mul]
        rcases ex_co_1 n C D b c w.2 hcn hC h0' hD' with r | r
        · exact Or.inr (by rw [r])
        · exact Or.inl (by rw [r, Int.neg_neg])
      · have d : ¬ D n = true := by rw [dn]; exact q
        rw [if_neg d, if_neg q]
        exact ex_co_1 n C D b c w.1 hcn hC h0' hD'
