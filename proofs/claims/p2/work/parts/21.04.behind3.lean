/-- where a table by INCIDENCES starts: T r is what is left of the row X r by SIGNS, on the columns from q on -/
theorem eq_start {q n a : Nat} {N : Int} {w : ex (q + n)} {C : Nat → Bool} {X T : Nat → Nat → Int} (hC : ∀ j, C j = true ↔ j < q) (hD : ex_co (q + n) C w * ex_co (q + n) C w = 1) (hM : ex_dot (q + n) w w ≤ N ^ q) (hX : ∀ r, r < a → ex_sq (q + n) (X r) ≤ N) (hT : ∀ r, r < a → ∃ v, ef (q + n) w C (X r) v ∧ ∀ j, j < n → v (q + j) = T r j) : eq_inv q n a 0 0 N 1 w C X T := by
  refine ef_eb hC (by omega) hD hM (fun r h1 h2 => hX (r - q) (by omega)) (fun r h1 h2 => ?_) (fun r _ _ => ex_mul_one (q + n) _)
  obtain ⟨v, ⟨v1, v2⟩, v3⟩ := hT (r - q) (by omega)
  have same : ∀ j, j < q + n → (if j < q then 0 else T (r - q) (j - q)) = 1 * v j + 0 * v j := by
    intro j hj
    rw [Int.one_mul, Int.zero_mul, Int.add_zero]
    by_cases z : j < q
    · rw [if_pos z]; exact (v2 j hj ((hC j).mpr z)).symm
    · rw [if_neg z, ← v3 (j - q) (by omega), show q + (j - q) = j by omega]
  refine ⟨?_, fun c hc hq => if_pos ((hC c).mp hq)⟩
  have l := ex_w_lin (q + n) v v (fun j => if j < q then 0 else T (r - q) (j - q)) 1 0 w same
  show ex_w (q + n) (fun j => if j < q then 0 else T (r - q) (j - q)) w = ex_w (q + n) (X (r - q)) w
  rw [l, ← v1]
  refine ex_ext (q + n) _ _ (fun D => ?_)
  rw [ex_co_add, ex_co_mul, ex_co_mul, Int.one_mul, Int.zero_mul, Int.add_zero]
