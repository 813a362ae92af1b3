/-! ===== q paired rows, one after the other: row i is 0 at the lowers before i, 1 or -1 at its own ===== -/
def ef_fl (p : Nat → Nat → Int) (v0 : Nat → Int) : Nat → Nat → Int | 0 => v0 | i + 1 => fun c => ef_fl p v0 i c - ef_fl p v0 i i * p i i * p i c
theorem ef_chain {n q : Nat} {N : Int} {p : Nat → Nat → Int} (hq : q ≤ n) (hN : ∀ i, i < q → ex_sq n (p i) ≤ N) (ht : ∀ i j, i < q → j < i → p i j = 0) (hu : ∀ i, i < q → p i i * p i i = 1) :
    ∀ i, i ≤ q → ∃ (w : ex n) (C : Nat → Bool), (∀ j, C j = true ↔ j < i) ∧ ex_co n C w * ex_co n C w = 1 ∧ ex_dot n w w ≤ N ^ i ∧ ∀ v0, ef n w C v0 (ef_fl p v0 i) := by
  intro i
  induction i with
  | zero =>
    intro _
    refine ⟨ex_1 n, fun _ => false, fun j => ⟨fun h => absurd (show false = true from h) (by decide), fun h => absurd h (by omega)⟩, ?_, ?_, fun v0 => ef_start n (ex_1 n) v0⟩
    · rw [ex_1_co]; rfl
    · rw [ex_1_dot, Int.pow_zero]; exact Int.le_refl 1
  | succ i ih =>
    intro hi
    obtain ⟨w, C, h1, h2, h3, h4⟩ := ih (by omega)
    have Cf : C i = false := by
      cases z : C i with
      | false => rfl
      | true => exact absurd ((h1 i).mp z) (by omega)
    have pz : ∀ c, c < n → C c = true → p i c = 0 := fun c _ hc => ht i c (by omega) ((h1 c).mp hc)
    refine ⟨ex_w n (p i) w, fun j => C j || decide (j = i), fun j => ?_, ef_unit h2 (by omega) Cf pz (hu i (by omega)), ?_, fun v0 => ef_step (h4 v0) (by omega) pz (hu i (by omega)) (fun c _ => rfl)⟩
    · constructor
      · intro h
        rcases Bool.or_eq_true _ _ |>.mp h with z | z
        · have := (h1 j).mp z; omega
        · have := of_decide_eq_true z; omega
      · intro h
        refine Bool.or_eq_true _ _ |>.mpr ?_
        by_cases z : j = i
        · exact Or.inr (decide_eq_true z)
        · exact Or.inl ((h1 j).mpr (by omega))
    · have e := ef_norm (hN i (by omega)) h3
      rw [Int.pow_succ, Int.mul_comm]
      exact e
/-- each number met on the way is bounded -/
theorem ef_chain_bound {n q : Nat} {N : Int} {p : Nat → Nat → Int} {v0 : Nat → Int} (hq : q ≤ n) (hN : ∀ i, i < q → ex_sq n (p i) ≤ N) (ht : ∀ i j, i < q → j < i → p i j = 0) (hu : ∀ i, i < q → p i i * p i i = 1) (h0 : ex_sq n v0 ≤ N) {i c : Nat} (hi : i ≤ q) (hc : c < n) : ef_fl p v0 i c * ef_fl p v0 i c ≤ N * N ^ i := by
  obtain ⟨w, C, _, h2, h3, h4⟩ := ef_chain hq hN ht hu i hi
  exact ef_bound (h4 v0) h2 h0 h3 hc
/-- the table's start: rows X r by SIGNS behind q paired rows -/
theorem ef_table {q n a : Nat} {N : Int} {p X T : Nat → Nat → Int} (hN : ∀ i, i < q → ex_sq (q + n) (p i) ≤ N) (ht : ∀ i j, i < q → j < i → p i j = 0) (hu : ∀ i, i < q → p i i * p i i = 1) (hX : ∀ r, r < a → ex_sq (q + n) (X r) ≤ N) (hT : ∀ r j, r < a → j < n → T r j = ef_fl p (X r) q (q + j)) : ∃ (w : ex (q + n)) (C : Nat → Bool), eq_inv q n a 0 0 N 1 w C X T := by
  obtain ⟨w, C, h1, h2, h3, h4⟩ := ef_chain (show q ≤ q + n by omega) hN ht hu q (Nat.le_refl q)
  exact ⟨w, C, eq_start h1 h2 h3 hX (fun r hr => ⟨ef_fl p (X r) q, h4 (X r), fun j hj => (hT r j hr hj).symm⟩)⟩
