/-! ===== minors: elimination without fractions meets nothing but minors ===== -/
theorem ex_ext : ∀ (n : Nat) (v w : ex n), (∀ C, ex_co n C v = ex_co n C w) → v = w
  | 0, _, _, h => h (fun _ => false)
  | n + 1, v, w, h => by
    refine Prod.ext (ex_ext n v.1 w.1 (fun C => ?_)) (ex_ext n v.2 w.2 (fun C => ?_))
    · have g : (if (fun j => if j = n then false else C j) n = true then ex_co n (fun j => if j = n then false else C j) v.2 else ex_co n (fun j => if j = n then false else C j) v.1) = (if (fun j => if j = n then false else C j) n = true then ex_co n (fun j => if j = n then false else C j) w.2 else ex_co n (fun j => if j = n then false else C j) w.1) := h (fun j => if j = n then false else C j)
      have e : ¬ (fun j => if j = n then false else C j) n = true := by simp
      rw [if_neg e, if_neg e] at g
      have c : ∀ j, j < n → C j = (fun j => if j = n then false else C j) j := fun j hj => (if_neg (by omega : ¬ j = n)).symm
      rw [ex_co_C n C _ v.1 c, ex_co_C n C _ w.1 c]; exact g
    · have g : (if (fun j => if j = n then true else C j) n = true then ex_co n (fun j => if j = n then true else C j) v.2 else ex_co n (fun j => if j = n then true else C j) v.1) = (if (fun j => if j = n then true else C j) n = true then ex_co n (fun j => if j = n then true else C j) w.2 else ex_co n (fun j => if j = n then true else C j) w.1) := h (fun j => if j = n then true else C j)
      have e : (fun j => if j = n then true else C j) n = true := by simp
      rw [if_pos e, if_pos e] at g
      have c : ∀ j, j < n → C j = (fun j => if j = n then true else C j) j := fun j hj => (if_neg (by omega : ¬ j = n)).symm
      rw [ex_co_C n C _ v.2 c, ex_co_C n C _ w.2 c]; exact g
theorem ex_mul_can (n : Nat) (c : Int) (v w : ex n) (h : c ≠ 0) (e : ex_mul n c v = ex_mul n c w) : v = w := by
  refine ex_ext n v w (fun C => ?_)
  have g := congrArg (ex_co n C) e
  rw [ex_co_mul, ex_co_mul] at g
  exact Int.eq_of_mul_eq_mul_left h g
theorem ex_w_add : ∀ (n : Nat) (b : Nat → Int) (v w : ex n), ex_w n b (ex_add n v w) = ex_add n (ex_w n b v) (ex_w n b w)
  | 0, _, _, _ => rfl
  | n + 1, b, v, w => by
    have h1 := ex_w_add n b v.1 w.1
    have h2 := ex_w_add n b v.2 w.2
    refine Prod.ext h1 (ex_ext n _ _ (fun C => ?_))
    show ex_co n C (ex_add n (ex_mul n (b n) (ex_add n v.1 w.1)) (ex_mul n (-1) (ex_w n b (ex_add n v.2 w.2)))) = ex_co n C (ex_add n (ex_add n (ex_mul n (b n) v.1) (ex_mul n (-1) (ex_w n b v.2))) (ex_add n (ex_mul n (b n) w.1) (ex_mul n (-1) (ex_w n b w.2))))
    rw [h2]
    simp only [ex_co_add, ex_co_mul, Int.mul_add]
    omega
theorem ex_w_mul : ∀ (n : Nat) (b : Nat → Int) (c : Int) (w : ex n), ex_w n b (ex_mul n c w) = ex_mul n c (ex_w n b w)
  | 0, _, c, _ => (Int.mul_zero c).symm
  | n + 1, b, c, w => by
    have h1 := ex_w_mul n b c w.1
    have h2 := ex_w_mul n b c w.2
    refine Prod.ext h1 (ex_ext n _ _ (fun C => ?_))
    show ex_co n C (ex_add n (ex_mul n (b n) (ex_mul n c w.1)) (ex_mul n (-1) (ex_w n b (ex_mul n c w.2)))) = ex_co n C (ex_mul n c (ex_add n (ex_mul n (b n) w.1) (ex_mul n (-1) (ex_w n b w.2))))
    rw [h2]
    simp only [ex_co_add, ex_co_mul, Int.mul_add]
    rw [Int.mul_left_comm (b n) c, Int.mul_left_comm c (-1)]
/-- a row times c and another one times d -/
theorem ex_w_lin : ∀ (n : Nat) (b b' b'' : Nat → Int) (c d : Int) (w : ex n), (∀ j, j < n → b'' j = c * b j + d * b' j) → ex_w n b'' w = ex_add n (ex_mul n c (ex_w n b w)) (ex_mul n d (ex_w n b' w))
  | 0, _, _, _, c, d, _, _ => by
    show (0 : Int) = c * 0 + d * 0
    rw [Int.mul_zero, Int.mul_zero]; rfl
  | n + 1, b, b', b'', c, d, w, h => by
    have h' : ∀ j, j < n → b'' j = c * b j + d * b' j := fun j hj => h j (by omega)
    have h1 := ex_w_lin n b b' b'' c d w.1 h'
    have h2 := ex_w_lin n b b' b'' c d w.2 h'
    refine Prod.ext h1 (ex_ext n _ _ (fun C => ?_))
    show ex_co n C (ex_add n (ex_mul n (b'' n) w.1) (ex_mul n (-1) (ex_w n b'' w.2))) = ex_co n C (ex_add n (ex_mul n c (ex_add n (ex_mul n (b n) w.1) (ex_mul n (-1) (ex_w n b w.2)))) (ex_mul n d (ex_add n (ex_mul n (b' n) w.1) (ex_mul n (-1) (ex_w n b' w.2)))))
    rw [h2, h n (by omega)]
    simp only [ex_co_add, ex_co_mul, Int.mul_add, Int.add_mul]
    rw [Int.mul_left_comm c (-1), Int.mul_left_comm d (-1), Int.mul_assoc, Int.mul_assoc]
    omega
theorem ex_anti : ∀ (n : Nat) (a b : Nat → Int) (w : ex n), ex_w n a (ex_w n b w) = ex_mul n (-1) (ex_w n b (ex_w n a w))
  | 0, _, _, _ => rfl
  | n + 1, a, b, w => by
    have h1 := ex_anti n a b w.1
    have h2 := ex_anti n a b w.2
    refine Prod.ext h1 (ex_ext n _ _ (fun C => ?_))
    show ex_co n C (ex_add n (ex_mul n (a n) (ex_w n b w.1)) (ex_mul n (-1) (ex_w n a (ex_add n (ex_mul n (b n) w.1) (ex_mul n (-1) (ex_w n b w.2)))))) = ex_co n C (ex_mul n (-1) (ex_add n (ex_mul n (b n) (ex_w n a w.1)) (ex_mul n (-1) (ex_w n b (ex_add n (ex_mul n (a n) w.1) (ex_mul n (-1) (ex_w n a w.2)))))))
    rw [ex_w_add, ex_w_add, ex_w_mul, ex_w_mul, ex_w_mul, ex_w_mul, h2]
    simp only [ex_co_add, ex_co_mul, Int.mul_add]
    omega
theorem ex_self (n : Nat) (a : Nat → Int) (w : ex n) (C : Nat → Bool) : ex_co n C (ex_w n a (ex_w n a w)) = 0 := by
  have h := congrArg (ex_co n C) (ex_anti n a a w)
  rw [ex_co_mul] at h
  omega
theorem ex_norm1 (n : Nat) (b : Nat → Int) (w : ex n) (N M : Int) (hN : ex_sq n b ≤ N) (hM : ex_dot n w w ≤ M) (hN0 : 0 ≤ N) : ex_dot n (ex_w n b w) (ex_w n b w) ≤ N * M :=
  Int.le_trans (ex_had n b w) (Int.mul_le_mul hN hM (ex_pos n w) hN0)
/-- an elimination under way: i rows are through, the columns ahead of c; the minor D; rows X of the table itself (turned about, their places changed), E what is left -/
def eb_inv (n a i c : Nat) (N D : Int) (w : ex n) (C : Nat → Bool) (X E : Nat → Nat → Int) : Prop :=
  D ≠ 0 ∧ (ex_co n C w = D ∨ ex_co n C w = -D) ∧ ex_dot n w w ≤ N ^ i ∧ (∀ r, i ≤ r → r < a → ex_mul n D (ex_w n (X r) w) = ex_w n (E r) w) ∧ (∀ r j, i ≤ r → r < a → j < c → E r j = 0) ∧ (∀ j, C j = true → j < c) ∧ (∀ r, i ≤ r → r < a → ex_sq n (X r) ≤ N)
theorem eb_start (n a : Nat) (N : Int) (hN : 1 ≤ N) (one : ex n) (h1 : ex_co n (fun _ => false) one = 1) (h2 : ex_dot n one one = 1) (X : Nat → Nat → Int) (hX : ∀ r, r < a → ex_sq n (X r) ≤ N) (hm : ∀ b : Nat → Int, ex_mul n 1 (ex_w n b one) = ex_w n b one) : eb_inv n a 0 0 N 1 one (fun _ => false) X X :=
  ⟨by decide, Or.inl h1, by rw [h2, Int.pow_zero]; exact Int.le_refl 1, fun r _ _ => hm (X r), fun r j _ _ hj => absurd hj (by omega), fun j h => absurd (show false = true from h) (by decide), fun r _ hr => hX r hr⟩
theorem eb_bound {n a i c : Nat} {N D : Int} {w : ex n} {C : Nat → Bool} {X E : Nat → Nat → Int} (hI : eb_inv n a i c N D w C X E) (hN : 0 ≤ N) {r j : Nat} (hir : i ≤ r) (hr : r < a) (hcj : c ≤ j) (hj : j < n) : E r j * E r j ≤ N ^ i * N := by
  obtain ⟨hD, hw, hn, h3, h4, h5, h6⟩ := hI
  have cj : C j = false := by
    cases q : C j with
    | false => rfl
    | true => exact absurd (h5 j q) (by omega)
  have z := ex_co_1 n C (fun k => C k || decide (k = j)) (E r) j w hj cj (fun k _ hk => h4 r k hir hr (h5 k hk)) (fun _ _ => rfl)
  have e := congrArg (ex_co n (fun k => C k || decide (k = j))) (h3 r hir hr)
  rw [ex_co_mul] at e
  generalize hx : ex_co n (fun k => C k || decide (k = j)) (ex_w n (X r) w) = x at e
  have b := ex_co_sq n (fun k => C k || decide (k = j)) (ex_w n (X r) w)
  rw [hx] at b
  have nn := ex_norm1 n (X r) w N (N ^ i) (h6 r hir hr) hn hN
  have q : E r j = x ∨ E r j = -x := by
    have g : D * x = D * E r j ∨ D * x = D * (-E r j) := by
      rcases z with z | z <;> rcases hw with hw | hw <;> rw [hw] at z <;> rw [z] at e
      · exact Or.inl (by rw [e, Int.mul_comm])
      · exact Or.inr (by rw [e, Int.mul_neg, Int.mul_neg, Int.mul_comm])
      · exact Or.inr (by rw [e, Int.mul_neg, Int.mul_comm])
      · exact Or.inl (by rw [e, Int.mul_neg, Int.neg_neg, Int.mul_comm])
    rcases g with g | g
    · exact Or.inl (Int.eq_of_mul_eq_mul_left hD g).symm
    · exact Or.inr (by have := Int.eq_of_mul_eq_mul_left hD g; omega)
  have s : E r j * E r j = x * x := by
    rcases q with q | q
    · rw [q]
    · rw [q, Int.neg_mul_neg]
  rw [s, Int.mul_comm (N ^ i)]
  exact Int.le_trans b nn
theorem eb_skip {n a i c : Nat} {N D : Int} {w : ex n} {C : Nat → Bool} {X E : Nat → Nat → Int} (hI : eb_inv n a i c N D w C X E) (h : ∀ r, i ≤ r → r < a → E r c = 0) : eb_inv n a i (c + 1) N D w C X E := by
  obtain ⟨hD, hw, hn, h3, h4, h5, h6⟩ := hI
  refine ⟨hD, hw, hn, h3, fun r j h1 h2 h3 => ?_, fun j hj => Nat.lt_succ_of_lt (h5 j hj), h6⟩
  by_cases q : j = c
  · rw [q]; exact h r h1 h2
  · exact h4 r j h1 h2 (by omega)
theorem eb_perm {n a i c : Nat} {N D : Int} {w : ex n} {C : Nat → Bool} {X E X' E' : Nat → Nat → Int} (hI : eb_inv n a i c N D w C X E) (h : ∀ r, i ≤ r → r < a → ∃ r', i ≤ r' ∧ r' < a ∧ (X' r = X r' ∧ (∀ j, j < n ∨ j < c → E' r j = E r' j) ∨ (∀ j, j < n → X' r j = -X r' j) ∧ (∀ j, j < n ∨ j < c → E' r j = -E r' j))) : eb_inv n a i c N D w C X' E' := by
  obtain ⟨hD, hw, hn, h3, h4, h5, h6⟩ := hI
  have same : ∀ (b b' : Nat → Int), (∀ j, j < n → b' j = b j) → ex_w n b' w = ex_w n b w := by
    intro b b' e
    rw [ex_w_lin n b b b' 1 0 w (fun j hj => by rw [e j hj]; omega)]
    refine ex_ext n _ _ (fun K => ?_)
    simp only [ex_co_add, ex_co_mul]; omega
  have neg : ∀ (b b' : Nat → Int), (∀ j, j < n → b' j = -b j) → ex_w n b' w = ex_mul n (-1) (ex_w n b w) := by
    intro b b' e
    rw [ex_w_lin n b b b' (-1) 0 w (fun j hj => by rw [e j hj]; omega)]
    refine ex_ext n _ _ (fun K => ?_)
    simp only [ex_co_add, ex_co_mul]; omega
  have sqn : ∀ (k : Nat) (b b' : Nat → Int), (∀ j, j < k → b' j = -b j) → ex_sq k b' = ex_sq k b := by
    intro k
    induction k with
    | zero => intro b b' _; rfl
    | succ k ih =>
      intro b b' e
      show ex_sq k b' + b' k * b' k = ex_sq k b + b k * b k
      rw [ih b b' (fun j hj => e j (by omega)), e k (by omega), Int.neg_mul_neg]
  refine ⟨hD, hw, hn, fun r h1 h2 => ?_, fun r j h1 h2 hj => ?_, h5, fun r h1 h2 => ?_⟩
  · obtain ⟨r', k1, k2, k | k⟩ := h r h1 h2
    · rw [k.1, same (E r') (E' r) (fun j hj => k.2 j (Or.inl hj))]; exact h3 r' k1 k2
    · rw [neg (X r') (X' r) k.1, neg (E r') (E' r) (fun j hj => k.2 j (Or.inl hj)), ← h3 r' k1 k2]
      refine ex_ext n _ _ (fun K => ?_)
      simp only [ex_co_mul]
      rw [Int.mul_left_comm]
  · obtain ⟨r', k1, k2, k | k⟩ := h r h1 h2
    · rw [k.2 j (Or.inr hj)]; exact h4 r' j k1 k2 hj
    · rw [k.2 j (Or.inr hj), h4 r' j k1 k2 hj]; rfl
  · obtain ⟨r', k1, k2, k | k⟩ := h r h1 h2
    · rw [k.1]; exact h6 r' k1 k2
    · rw [sqn n (X r') (X' r) k.1]; exact h6 r' k1 k2
/-- one step: what it leaves is whole -/
theorem eb_div {n a i c : Nat} {N D : Int} {w : ex n} {C : Nat → Bool} {X E : Nat → Nat → Int} (hI : eb_inv n a i c N D w C X E) (hi : i < a) (hc : c < n) (hp : E i c ≠ 0) {r j : Nat} (hr : i < r) (hra : r < a) (hj : j < n) : ∃ m, E i c * E r j - E r c * E i j = D * m := by
  obtain ⟨hD, hw, hn, h3, h4, h5, h6⟩ := hI
  by_cases hjc : j ≤ c
  · refine ⟨0, ?_⟩
    by_cases q : j = c
    · rw [q, Int.mul_comm (E r c)]; omega
    · rw [h4 r j (by omega) hra (by omega), h4 i j (Nat.le_refl i) hi (by omega)]; omega
  have cc : ∀ k, c ≤ k → C k = false := by
    intro k hk
    cases q : C k with
    | false => rfl
    | true => exact absurd (h5 k q) (by omega)
  have z1 := ex_co_1 n C (fun k => C k || decide (k = c)) (E i) c w hc (cc c (Nat.le_refl c)) (fun k _ hk => h4 i k (Nat.le_refl i) hi (h5 k hk)) (fun _ _ => rfl)
  have e1 := congrArg (ex_co n (fun k => C k || decide (k = c))) (h3 i (Nat.le_refl i) hi)
  rw [ex_co_mul] at e1
  have Y0 : ∀ k, k < n → (fun k => C k || decide (k = c)) k = true → (fun k => E i c * E r k + -(E r c) * E i k) k = 0 := by
    intro k _ hk
    show E i c * E r k + -(E r c) * E i k = 0
    by_cases q : k = c
    · rw [q, Int.neg_mul, Int.mul_comm (E r c)]; omega
    · have hk : (C k || decide (k = c)) = true := hk
      rw [decide_eq_false q, Bool.or_false] at hk
      have l := h5 k hk
      rw [h4 r k (by omega) hra l, h4 i k (Nat.le_refl i) hi l]; omega
  have jf : (fun k => C k || decide (k = c)) j = false := by
    show (C j || decide (j = c)) = false
    rw [cc j (by omega), decide_eq_false (by omega : ¬ j = c)]; rfl
  have z2 := ex_co_1 n (fun k => C k || decide (k = c)) (fun k => (C k || decide (k = c)) || decide (k = j)) (fun k => E i c * E r k + -(E r c) * E i k) j (ex_w n (X i) w) hj jf Y0 (fun _ _ => rfl)
  have lin : ex_w n (fun k => E i c * E r k + -(E r c) * E i k) (ex_w n (X i) w) = ex_mul n (E i c * D) (ex_w n (X r) (ex_w n (X i) w)) := by
    refine ex_ext n _ _ (fun K => ?_)
    have a1 := congrArg (ex_co n K) (ex_w_lin n (E r) (E i) (fun k => E i c * E r k + -(E r c) * E i k) (E i c) (-(E r c)) (ex_w n (X i) w) (fun _ _ => rfl))
    have a2 := congrArg (ex_co n K) (ex_anti n (E r) (X i) w)
    have a3 := congrArg (ex_co n K) (ex_anti n (E i) (X i) w)
    have a4 := congrArg (ex_co n K) (ex_anti n (X i) (X r) w)
    rw [← h3 r (by omega) hra, ex_w_mul] at a2
    rw [← h3 i (Nat.le_refl i) hi, ex_w_mul] at a3
    have a5 := ex_self n (X i) w K
    simp only [ex_co_add, ex_co_mul] at a1 a2 a3 a4 ⊢
    rw [a1, a2, a3, a5, a4, Int.mul_assoc]
    simp only [Int.mul_neg, Int.neg_one_mul, Int.mul_zero, Int.neg_zero, Int.add_zero, Int.neg_neg]
  rw [lin, ex_co_mul] at z2
  generalize hx : ex_co n (fun k => (C k || decide (k = c)) || decide (k = j)) (ex_w n (X r) (ex_w n (X i) w)) = x at z2
  generalize hy : ex_co n (fun k => C k || decide (k = c)) (ex_w n (X i) w) = y at z2 e1
  have yp : y = E i c ∨ y = -E i c := by
    have g : D * y = D * E i c ∨ D * y = D * (-E i c) := by
      rcases z1 with z | z <;> rcases hw with hw | hw <;> rw [hw] at z <;> rw [z] at e1
      · exact Or.inl (by rw [e1, Int.mul_comm])
      · exact Or.inr (by rw [e1, Int.mul_neg, Int.mul_neg, Int.mul_comm])
      · exact Or.inr (by rw [e1, Int.mul_neg, Int.mul_comm])
      · exact Or.inl (by rw [e1, Int.mul_neg, Int.neg_neg, Int.mul_comm])
    rcases g with g | g
    · exact Or.inl (Int.eq_of_mul_eq_mul_left hD g)
    · exact Or.inr (Int.eq_of_mul_eq_mul_left hD g)
  have fin : ∀ u : Int, E i c * D * x = u * E i c → u = D * x := fun u e =>
    (Int.eq_of_mul_eq_mul_left hp (by rw [← Int.mul_assoc, e, Int.mul_comm])).symm
  have z2 : E i c * D * x = (E i c * E r j + -(E r c) * E i j) * y ∨ E i c * D * x = -((E i c * E r j + -(E r c) * E i j) * y) := z2
  have sub : E i c * E r j - E r c * E i j = E i c * E r j + -(E r c) * E i j := by rw [Int.neg_mul]; omega
  rw [sub]
  generalize E i c * E r j + -(E r c) * E i j = u at z2
  rcases z2 with z | z <;> rcases yp with q | q <;> rw [q] at z
  · exact ⟨x, fin u z⟩
  · exact ⟨-x, by have := fin (-u) (by rw [z, Int.mul_neg, Int.neg_mul]); rw [Int.mul_neg]; omega⟩
  · exact ⟨-x, by have := fin (-u) (by rw [z, Int.neg_mul]); rw [Int.mul_neg]; omega⟩
  · exact ⟨x, fin u (by rw [z, Int.mul_neg, Int.neg_neg])⟩
