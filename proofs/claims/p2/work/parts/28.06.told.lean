/-! ===== reading, exactly: told rows that are 0 at the same places ===== -/
def hrz (B C : Nat → Int32) : Prop := ∀ a, a < 256 → (B a ≠ 0 ↔ C a ≠ 0)
theorem hrz_N {B C : Nat → Int32} (h : hrz B C) : ∀ n, n < 256 → hq_N B n = hq_N C n := by
  intro n
  induction n with
  | zero => exact fun _ => rfl
  | succ n ih =>
    intro hn
    show hq_N B n + (if B (n + 1) = 0 then 0 else 1) = hq_N C n + (if C (n + 1) = 0 then 0 else 1)
    rw [ih (by omega)]
    have q := h (n + 1) hn
    by_cases x : C (n + 1) = 0
    · rw [if_pos x, if_pos (Decidable.of_not_not (fun w => q.mp w x))]
    · rw [if_neg x, if_neg (q.mpr x)]
theorem hrz_told {B C B' C' : Nat → Int32} {s : Int32} (h : hrz B C) (b : hrt B B' s) (c : hrt C C' s) : hrz B' C' := by
  intro a ha
  rw [b a ha, c a ha, h a ha]
theorem hrz_zero : hrz (fun _ => 0) (fun _ => 0) := fun _ _ => Iff.rfl
