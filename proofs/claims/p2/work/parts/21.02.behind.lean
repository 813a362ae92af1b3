/-! ===== the class's elimination behind q paired rows ===== -/
def eq_inv (q n a i c : Nat) (N D : Int) (w : ex (q + n)) (C : Nat → Bool) (X : Nat → Nat → Int) (E : Nat → Nat → Int) : Prop := eb_inv (q + n) (q + a) (q + i) (q + c) N D w C (fun k => X (k - q)) (fun k j => if j < q then 0 else E (k - q) (j - q))
theorem eq_E {E : Nat → Nat → Int} {q k j : Nat} : (if q + j < q then 0 else E (q + k - q) (q + j - q)) = E k j := by
  rw [if_neg (by omega), Nat.add_sub_cancel_left, Nat.add_sub_cancel_left]
theorem eq_skip {q n a i c : Nat} {N D : Int} {w : ex (q + n)} {C : Nat → Bool} {X E : Nat → Nat → Int} (hI : eq_inv q n a i c N D w C X E) (h : ∀ r, i ≤ r → r < a → E r c = 0) : eq_inv q n a i (c + 1) N D w C X E := by
  refine eb_skip hI (fun r h1 h2 => ?_)
  obtain ⟨k, rfl⟩ : ∃ k, r = q + k := ⟨r - q, by omega⟩
  exact eq_E.trans (h k (by omega) (by omega))
theorem eq_bound {q n a i c : Nat} {N D : Int} {w : ex (q + n)} {C : Nat → Bool} {X E : Nat → Nat → Int} (hI : eq_inv q n a i c N D w C X E) (hN : 0 ≤ N) {r j : Nat} (hir : i ≤ r) (hr : r < a) (hcj : c ≤ j) (hj : j < n) : E r j * E r j ≤ N ^ (q + i) * N := by
  have h := eb_bound hI hN (r := q + r) (j := q + j) (by omega) (by omega) (by omega) (by omega)
  have e : (if q + j < q then 0 else E (q + r - q) (q + j - q)) = E r j := eq_E
  rw [e] at h
  exact h
theorem eq_div {q n a i c : Nat} {N D : Int} {w : ex (q + n)} {C : Nat → Bool} {X E : Nat → Nat → Int} (hI : eq_inv q n a i c N D w C X E) (hi : i < a) (hc : c < n) (hp : E i c ≠ 0) {r j : Nat} (hr : i < r) (hra : r < a) (hj : j < n) : ∃ m, E i c * E r j - E r c * E i j = D * m := by
  obtain ⟨m, h⟩ := eb_div hI (by omega) (by omega) (by rw [eq_E]; exact hp) (r := q + r) (j := q + j) (by omega) (by omega) (by omega)
  rw [eq_E, eq_E, eq_E, eq_E] at h
  exact ⟨m, h⟩
theorem eq_perm {q n a i c : Nat} {N D : Int} {w : ex (q + n)} {C : Nat → Bool} {X E X' E' : Nat → Nat → Int} (hI : eq_inv q n a i c N D w C X E) (h : ∀ r, i ≤ r → r < a → ∃ r', i ≤ r' ∧ r' < a ∧ (X' r = X r' ∧ (∀ j, j < n ∨ j < c → E' r j = E r' j) ∨ (∀ j, j < q + n → X' r j = -X r' j) ∧ (∀ j, j < n ∨ j < c → E' r j = -E r' j))) : eq_inv q n a i c N D w C X' E' := by
  refine eb_perm hI (fun r h1 h2 => ?_)
  obtain ⟨r', a1, a2, a3⟩ := h (r - q) (by omega) (by omega)
  refine ⟨q + r', by omega, by omega, ?_⟩
  have e : q + r' - q = r' := by omega
  rcases a3 with ⟨b1, b2⟩ | ⟨b1, b2⟩
  · refine Or.inl ⟨by show X' (r - q) = X (q + r' - q); rw [e]; exact b1, fun j hj => ?_⟩
    show (if j < q then 0 else E' (r - q) (j - q)) = (if j < q then 0 else E (q + r' - q) (j - q))
    rw [e]
    by_cases z : j < q
    · rw [if_pos z, if_pos z]
    · rw [if_neg z, if_neg z]; exact b2 (j - q) (by omega)
  · refine Or.inr ⟨fun j hj => by show X' (r - q) j = -X (q + r' - q) j; rw [e]; exact b1 j hj, fun j hj => ?_⟩
    show (if j < q then 0 else E' (r - q) (j - q)) = -(if j < q then 0 else E (q + r' - q) (j - q))
    rw [e]
    by_cases z : j < q
    · rw [if_pos z, if_pos z]; rfl
    · rw [if_neg z, if_neg z]; exact b2 (j - q) (by omega)
theorem eq_step {q n a i c : Nat} {N D : Int} {w : ex (q + n)} {C : Nat → Bool} {X E E' : Nat → Nat → Int} (hI : eq_inv q n a i c N D w C X E) (hN : 0 ≤ N) (hi : i < a) (hc : c < n) (hp : E i c ≠ 0) (hE : ∀ r j, i < r → r < a → j < n → E i c * E r j - E r c * E i j = D * E' r j) (hE0 : ∀ r j, i < r → r < a → j < c + 1 → E' r j = 0) : eq_inv q n a (i + 1) (c + 1) N (E i c) (ex_w (q + n) (X i) w) (fun k => C k || decide (k = q + c)) X E' := by
  have s := eb_step (E' := fun k j => if j < q then 0 else E' (k - q) (j - q)) hI hN (by omega) (by omega) (by rw [eq_E]; exact hp) (fun r j h1 h2 h3 => ?_) (fun r j h1 h2 h3 => ?_)
  · rw [eq_E] at s
    rw [show q + i - q = i by omega] at s
    exact s
  · obtain ⟨k, rfl⟩ : ∃ k, r = q + k := ⟨r - q, by omega⟩
    by_cases z : j < q
    · rw [if_pos z, if_pos z, if_pos z, Int.mul_zero, Int.mul_zero, Int.mul_zero]; rfl
    · obtain ⟨l, rfl⟩ : ∃ l, j = q + l := ⟨j - q, by omega⟩
      rw [eq_E, eq_E, eq_E, eq_E, eq_E]
      exact hE k l (by omega) (by omega) (by omega)
  · obtain ⟨k, rfl⟩ : ∃ k, r = q + k := ⟨r - q, by omega⟩
    by_cases z : j < q
    · exact if_pos z
    · obtain ⟨l, rfl⟩ : ∃ l, j = q + l := ⟨j - q, by omega⟩
      exact eq_E.trans (hE0 k l (by omega) (by omega) (by omega))
