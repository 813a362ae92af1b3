/-- the elimination of a table by INCIDENCES starts behind the q paired rows: columns 0 to q - 1 are their lowers, rows from q on are the table's -/
theorem ef_eb {n a q : Nat} {N : Int} {w : ex n} {C : Nat → Bool} {X E : Nat → Nat → Int} (hC : ∀ j, C j = true ↔ j < q) (hqn : q ≤ n) (hD : ex_co n C w * ex_co n C w = 1) (hM : ex_dot n w w ≤ N ^ q) (hX : ∀ r, q ≤ r → r < a → ex_sq n (X r) ≤ N) (hE : ∀ r, q ≤ r → r < a → ef n w C (X r) (E r)) (hm : ∀ r, q ≤ r → r < a → ex_mul n 1 (ex_w n (X r) w) = ex_w n (X r) w) : eb_inv n a q q N 1 w C X E := by
  refine ⟨by decide, ?_, hM, fun r h1 h2 => ?_, fun r j h1 h2 hj => (hE r h1 h2).2 j (by omega) ((hC j).mpr hj), fun j h => (hC j).mp h, hX⟩
  · have z : (ex_co n C w - 1) * (ex_co n C w + 1) = 0 := by
      rw [Int.mul_add, Int.sub_mul, Int.sub_mul, hD]; omega
    rcases Int.mul_eq_zero.mp z with h | h
    · exact Or.inl (by omega)
    · exact Or.inr (by omega)
  · rw [hm r h1 h2]; exact (hE r h1 h2).1.symm
