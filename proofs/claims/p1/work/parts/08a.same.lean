set_option maxHeartbeats 4000000 in
theorem eq_feed (p1 p2 p3 p4 p5 : Int32) (r1 r2 : Int32) (u1 : (Nat → Int32)) (u2 : (Nat → Int32)) (h1 : (fun (r : Int32) (_ : (Nat → Int32)) => r = 20) r1 u1) (h2 : (fun (r : Int32) (_ : (Nat → Int32)) => r = 20) r2 u2) : r1 = r2 := by
  have a_e := h1
  all_goals have b_e := h2
  all_goals first | exact Eq.trans a_e (Eq.symm b_e) | (exfalso; simp only [Int32.lt_iff_toInt_lt, Int32.le_iff_toInt_le, ← Int32.toInt_inj] at *; omega)
set_option maxHeartbeats 4000000 in
theorem eq_end (p1 : Int32) (r1 r2 : Int32) (u1 : Nat) (u2 : Nat) (h1 : (fun (r : Int32) (u : Nat) => (u = 0 ∧ (p1 < 0) ∧ r = (-1)) ∨ (u = 1 ∧ (¬ p1 < 0) ∧ (p1 ≤ 0) ∧ r = p1) ∨ (u = 2 ∧ (¬ p1 < 0) ∧ (¬ p1 ≤ 0) ∧ r = (-1))) r1 u1) (h2 : (fun (r : Int32) (u : Nat) => (u = 0 ∧ (p1 < 0) ∧ r = (-1)) ∨ (u = 1 ∧ (¬ p1 < 0) ∧ (p1 ≤ 0) ∧ r = p1) ∨ (u = 2 ∧ (¬ p1 < 0) ∧ (¬ p1 ≤ 0) ∧ r = (-1))) r2 u2) : r1 = r2 := by
  rcases h1 with ⟨-, a_0, a_e⟩ | ⟨-, a_0, a_1, a_e⟩ | ⟨-, a_0, a_1, a_e⟩
  all_goals rcases h2 with ⟨-, b_0, b_e⟩ | ⟨-, b_0, b_1, b_e⟩ | ⟨-, b_0, b_1, b_e⟩
  all_goals first | exact Eq.trans a_e (Eq.symm b_e) | (exfalso; simp only [Int32.lt_iff_toInt_lt, Int32.le_iff_toInt_le, ← Int32.toInt_inj, show ((0 : Int32)).toInt = 0 from by decide] at *; omega)
set_option maxHeartbeats 4000000 in
theorem eq_complex (r1 r2 : Int32) (u1 : Unit) (u2 : (Nat → Int32)) (h1 : (fun (r : Int32) (_ : Unit) => r = (-3)) r1 u1) (h2 : (fun (r : Int32) (_ : (Nat → Int32)) => r = (-3)) r2 u2) : r1 = r2 := by
  have a_e := h1
  all_goals have b_e := h2
  all_goals first | exact Eq.trans a_e (Eq.symm b_e) | (exfalso; simp only [Int32.lt_iff_toInt_lt, Int32.le_iff_toInt_le, ← Int32.toInt_inj] at *; omega)
set_option maxHeartbeats 4000000 in
theorem eq_simplex (p1 p2 : Int32) (r1 r2 : Int32) (u1 : Unit) (u2 : Unit) (h1 : (fun (r : Int32) (_ : Unit) => r = (-1)) r1 u1) (h2 : (fun (r : Int32) (_ : Unit) => r = (-1)) r2 u2) : r1 = r2 := by
  have a_e := h1
  all_goals have b_e := h2
  all_goals first | exact Eq.trans a_e (Eq.symm b_e) | (exfalso; simp only [Int32.lt_iff_toInt_lt, Int32.le_iff_toInt_le, ← Int32.toInt_inj] at *; omega)
set_option maxHeartbeats 4000000 in
theorem eq_number (p1 : Int32) (r1 r2 : Int32) (u1 : Unit) (u2 : Unit) (h1 : (fun (r : Int32) (_ : Unit) => r = (-1)) r1 u1) (h2 : (fun (r : Int32) (_ : Unit) => r = (-1)) r2 u2) : r1 = r2 := by
  have a_e := h1
  all_goals have b_e := h2
  all_goals first | exact Eq.trans a_e (Eq.symm b_e) | (exfalso; simp only [Int32.lt_iff_toInt_lt, Int32.le_iff_toInt_le, ← Int32.toInt_inj] at *; omega)
set_option maxHeartbeats 4000000 in
theorem eq_sign (p1 p2 : Int32) (r1 r2 : Int32) (u1 : Unit) (u2 : Unit) (h1 : (fun (r : Int32) (_ : Unit) => r = (-2147483648)) r1 u1) (h2 : (fun (r : Int32) (_ : Unit) => r = (-2147483648)) r2 u2) : r1 = r2 := by
  have a_e := h1
  all_goals have b_e := h2
  all_goals first | exact Eq.trans a_e (Eq.symm b_e) | (exfalso; simp only [Int32.lt_iff_toInt_lt, Int32.le_iff_toInt_le, ← Int32.toInt_inj] at *; omega)
set_option maxHeartbeats 4000000 in
theorem eq_pair (p1 p2 : Int32) (r1 r2 : Int32) (u1 : Unit) (u2 : Unit) (h1 : (fun (r : Int32) (_ : Unit) => r = (-1)) r1 u1) (h2 : (fun (r : Int32) (_ : Unit) => r = (-1)) r2 u2) : r1 = r2 := by
  have a_e := h1
  all_goals have b_e := h2
  all_goals first | exact Eq.trans a_e (Eq.symm b_e) | (exfalso; simp only [Int32.lt_iff_toInt_lt, Int32.le_iff_toInt_le, ← Int32.toInt_inj] at *; omega)
set_option maxHeartbeats 4000000 in
theorem eq_part (p1 : Int32) (r1 r2 : Int32) (u1 : Unit) (u2 : Unit) (h1 : (fun (r : Int32) (_ : Unit) => r = (-1)) r1 u1) (h2 : (fun (r : Int32) (_ : Unit) => r = (-1)) r2 u2) : r1 = r2 := by
  have a_e := h1
  all_goals have b_e := h2
  all_goals first | exact Eq.trans a_e (Eq.symm b_e) | (exfalso; simp only [Int32.lt_iff_toInt_lt, Int32.le_iff_toInt_le, ← Int32.toInt_inj] at *; omega)
set_option maxHeartbeats 4000000 in
theorem eq_auto (p1 : Int32) (r1 r2 : Int32) (u1 : Unit) (u2 : Unit) (h1 : (fun (r : Int32) (_ : Unit) => r = (-1)) r1 u1) (h2 : (fun (r : Int32) (_ : Unit) => r = (-1)) r2 u2) : r1 = r2 := by
  have a_e := h1
  all_goals have b_e := h2
  all_goals first | exact Eq.trans a_e (Eq.symm b_e) | (exfalso; simp only [Int32.lt_iff_toInt_lt, Int32.le_iff_toInt_le, ← Int32.toInt_inj] at *; omega)
set_option maxHeartbeats 4000000 in
theorem eq_cancel (p1 p2 : Int32) (r1 r2 : Int32) (u1 : Unit) (u2 : Unit) (h1 : (fun (r : Int32) (_ : Unit) => r = (-1)) r1 u1) (h2 : (fun (r : Int32) (_ : Unit) => r = (-1)) r2 u2) : r1 = r2 := by
  have a_e := h1
  all_goals have b_e := h2
  all_goals first | exact Eq.trans a_e (Eq.symm b_e) | (exfalso; simp only [Int32.lt_iff_toInt_lt, Int32.le_iff_toInt_le, ← Int32.toInt_inj] at *; omega)
set_option maxHeartbeats 4000000 in
theorem eq_collapse (p1 : Int32) (r1 r2 : Int32) (u1 : Unit) (u2 : Unit) (h1 : (fun (r : Int32) (_ : Unit) => r = (-1)) r1 u1) (h2 : (fun (r : Int32) (_ : Unit) => r = (-1)) r2 u2) : r1 = r2 := by
  have a_e := h1
  all_goals have b_e := h2
  all_goals first | exact Eq.trans a_e (Eq.symm b_e) | (exfalso; simp only [Int32.lt_iff_toInt_lt, Int32.le_iff_toInt_le, ← Int32.toInt_inj] at *; omega)
set_option maxHeartbeats 4000000 in
theorem eq_undo (r1 r2 : Int32) (u1 : Unit) (u2 : Unit) (h1 : (fun (r : Int32) (_ : Unit) => r = (-1)) r1 u1) (h2 : (fun (r : Int32) (_ : Unit) => r = (-1)) r2 u2) : r1 = r2 := by
  have a_e := h1
  all_goals have b_e := h2
  all_goals first | exact Eq.trans a_e (Eq.symm b_e) | (exfalso; simp only [Int32.lt_iff_toInt_lt, Int32.le_iff_toInt_le, ← Int32.toInt_inj] at *; omega)
set_option maxHeartbeats 4000000 in
theorem eq_critical (p1 p2 : Int32) (r1 r2 : Int32) (u1 : Nat) (u2 : Nat) (h1 : (fun (r : Int32) (u : Nat) => (u = 0 ∧ (p1 < 0) ∧ r = (-1)) ∨ (u = 1 ∧ (¬ p1 < 0) ∧ (5 ≤ p1) ∧ r = (-1)) ∨ (u = 2 ∧ ((-1) ≤ p2) ∧ p1 = 0 ∧ (¬ p2 = (-1)) ∧ (0 ≤ p2) ∧ r = (-2)) ∨ (u = 3 ∧ ((-1) ≤ p2) ∧ p1 = 0 ∧ (¬ p2 = (-1)) ∧ (¬ 0 ≤ p2) ∧ r = 0) ∨ (u = 4 ∧ ((-1) ≤ p2) ∧ p1 = 0 ∧ (p2 = (-1)) ∧ r = 0) ∨ (u = 5 ∧ ((-1) ≤ p2) ∧ p1 = 1 ∧ (¬ p2 = (-1)) ∧ (0 ≤ p2) ∧ r = (-2)) ∨ (u = 6 ∧ ((-1) ≤ p2) ∧ p1 = 1 ∧ (¬ p2 = (-1)) ∧ (¬ 0 ≤ p2) ∧ r = 0) ∨ (u = 7 ∧ ((-1) ≤ p2) ∧ p1 = 1 ∧ (p2 = (-1)) ∧ r = 0) ∨ (u = 8 ∧ ((-1) ≤ p2) ∧ p1 = 2 ∧ (¬ p2 = (-1)) ∧ (0 ≤ p2) ∧ r = (-2)) ∨ (u = 9 ∧ ((-1) ≤ p2) ∧ p1 = 2 ∧ (¬ p2 = (-1)) ∧ (¬ 0 ≤ p2) ∧ r = 0) ∨ (u = 10 ∧ ((-1) ≤ p2) ∧ p1 = 2 ∧ (p2 = (-1)) ∧ r = 0) ∨ (u = 11 ∧ ((-1) ≤ p2) ∧ p1 = 3 ∧ (¬ p2 = (-1)) ∧ (0 ≤ p2) ∧ r = (-2)) ∨ (u = 12 ∧ ((-1) ≤ p2) ∧ p1 = 3 ∧ (¬ p2 = (-1)) ∧ (¬ 0 ≤ p2) ∧ r = 0) ∨ (u = 13 ∧ ((-1) ≤ p2) ∧ p1 = 3 ∧ (p2 = (-1)) ∧ r = 0) ∨ (u = 14 ∧ ((-1) ≤ p2) ∧ p1 = 4 ∧ (¬ p2 = (-1)) ∧ (0 ≤ p2) ∧ r = (-2)) ∨ (u = 15 ∧ ((-1) ≤ p2) ∧ p1 = 4 ∧ (¬ p2 = (-1)) ∧ (¬ 0 ≤ p2) ∧ r = 0) ∨ (u = 16 ∧ ((-1) ≤ p2) ∧ p1 = 4 ∧ (p2 = (-1)) ∧ r = 0) ∨ (u = 17 ∧ (¬ p1 < 0) ∧ (¬ 5 ≤ p1) ∧ (¬ (-1) ≤ p2) ∧ r = (-1))) r1 u1) (h2 : (fun (r : Int32) (u : Nat) => (u = 0 ∧ (p1 < 0) ∧ r = (-1)) ∨ (u = 1 ∧ (¬ p1 < 0) ∧ (4 < p1) ∧ r = (-1)) ∨ (u = 2 ∧ (¬ p1 < 0) ∧ (¬ 4 < p1) ∧ ((-1) ≤ p2) ∧ (¬ p2 = (-1)) ∧ r = (-2)) ∨ (u = 3 ∧ (¬ p1 < 0) ∧ (¬ 4 < p1) ∧ ((-1) ≤ p2) ∧ (p2 = (-1)) ∧ r = 0) ∨ (u = 4 ∧ (¬ p1 < 0) ∧ (¬ 4 < p1) ∧ (¬ (-1) ≤ p2) ∧ r = (-1))) r2 u2) : r1 = r2 := by
  rcases h1 with ⟨-, a_0, a_e⟩ | ⟨-, a_0, a_1, a_e⟩ | ⟨-, a_0, a_1, a_2, a_3, a_e⟩ | ⟨-, a_0, a_1, a_2, a_3, a_e⟩ | ⟨-, a_0, a_1, a_2, a_e⟩ | ⟨-, a_0, a_1, a_2, a_3, a_e⟩ | ⟨-, a_0, a_1, a_2, a_3, a_e⟩ | ⟨-, a_0, a_1, a_2, a_e⟩ | ⟨-, a_0, a_1, a_2, a_3, a_e⟩ | ⟨-, a_0, a_1, a_2, a_3, a_e⟩ | ⟨-, a_0, a_1, a_2, a_e⟩ | ⟨-, a_0, a_1, a_2, a_3, a_e⟩ | ⟨-, a_0, a_1, a_2, a_3, a_e⟩ | ⟨-, a_0, a_1, a_2, a_e⟩ | ⟨-, a_0, a_1, a_2, a_3, a_e⟩ | ⟨-, a_0, a_1, a_2, a_3, a_e⟩ | ⟨-, a_0, a_1, a_2, a_e⟩ | ⟨-, a_0, a_1, a_2, a_e⟩
  all_goals rcases h2 with ⟨-, b_0, b_e⟩ | ⟨-, b_0, b_1, b_e⟩ | ⟨-, b_0, b_1, b_2, b_3, b_e⟩ | ⟨-, b_0, b_1, b_2, b_3, b_e⟩ | ⟨-, b_0, b_1, b_2, b_e⟩
  all_goals first | exact Eq.trans a_e (Eq.symm b_e) | (exfalso; simp only [Int32.lt_iff_toInt_lt, Int32.le_iff_toInt_le, ← Int32.toInt_inj, show ((-1 : Int32)).toInt = -1 from by decide, show ((0 : Int32)).toInt = 0 from by decide, show ((1 : Int32)).toInt = 1 from by decide, show ((2 : Int32)).toInt = 2 from by decide, show ((3 : Int32)).toInt = 3 from by decide, show ((4 : Int32)).toInt = 4 from by decide, show ((5 : Int32)).toInt = 5 from by decide] at *; omega)
set_option maxHeartbeats 4000000 in
theorem eq_paths (p1 p2 : Int32) (r1 r2 : Int64) (u1 : Unit) (u2 : Unit) (h1 : (fun (r : Int64) (_ : Unit) => r = (-1)) r1 u1) (h2 : (fun (r : Int64) (_ : Unit) => r = (-1)) r2 u2) : r1 = r2 := by
  have a_e := h1
  all_goals have b_e := h2
  all_goals first | exact Eq.trans a_e (Eq.symm b_e) | (exfalso; simp only [Int32.lt_iff_toInt_lt, Int32.le_iff_toInt_le, ← Int32.toInt_inj] at *; omega)
set_option maxHeartbeats 4000000 in
theorem eq_path (p1 p2 p3 p4 : Int32) (r1 r2 : Int32) (u1 : Unit) (u2 : Unit) (h1 : (fun (r : Int32) (_ : Unit) => r = (-1)) r1 u1) (h2 : (fun (r : Int32) (_ : Unit) => r = (-1)) r2 u2) : r1 = r2 := by
  have a_e := h1
  all_goals have b_e := h2
  all_goals first | exact Eq.trans a_e (Eq.symm b_e) | (exfalso; simp only [Int32.lt_iff_toInt_lt, Int32.le_iff_toInt_le, ← Int32.toInt_inj] at *; omega)
set_option maxHeartbeats 4000000 in
theorem eq_incidence (p1 p2 : Int32) (r1 r2 : Int64) (u1 : Unit) (u2 : Unit) (h1 : (fun (r : Int64) (_ : Unit) => r = (-9223372036854775808)) r1 u1) (h2 : (fun (r : Int64) (_ : Unit) => r = (-9223372036854775808)) r2 u2) : r1 = r2 := by
  have a_e := h1
  all_goals have b_e := h2
  all_goals first | exact Eq.trans a_e (Eq.symm b_e) | (exfalso; simp only [Int32.lt_iff_toInt_lt, Int32.le_iff_toInt_le, ← Int32.toInt_inj] at *; omega)
set_option maxHeartbeats 4000000 in
theorem eq_chain (p1 p2 : Int32) (r1 r2 : Int64) (u1 : Unit) (u2 : Unit) (h1 : (fun (r : Int64) (_ : Unit) => r = (-9223372036854775808)) r1 u1) (h2 : (fun (r : Int64) (_ : Unit) => r = (-9223372036854775808)) r2 u2) : r1 = r2 := by
  have a_e := h1
  all_goals have b_e := h2
  all_goals first | exact Eq.trans a_e (Eq.symm b_e) | (exfalso; simp only [Int32.lt_iff_toInt_lt, Int32.le_iff_toInt_le, ← Int32.toInt_inj] at *; omega)
set_option maxHeartbeats 4000000 in
theorem eq_root (p1 p2 : Int32) (r1 r2 : Int32) (u1 : Unit) (u2 : Unit) (h1 : (fun (r : Int32) (_ : Unit) => r = (-1)) r1 u1) (h2 : (fun (r : Int32) (_ : Unit) => r = (-1)) r2 u2) : r1 = r2 := by
  have a_e := h1
  all_goals have b_e := h2
  all_goals first | exact Eq.trans a_e (Eq.symm b_e) | (exfalso; simp only [Int32.lt_iff_toInt_lt, Int32.le_iff_toInt_le, ← Int32.toInt_inj] at *; omega)
set_option maxHeartbeats 4000000 in
theorem eq_through (p1 p2 p3 : Int32) (r1 r2 : Int64) (u1 : Unit) (u2 : Unit) (h1 : (fun (r : Int64) (_ : Unit) => r = (-1)) r1 u1) (h2 : (fun (r : Int64) (_ : Unit) => r = (-1)) r2 u2) : r1 = r2 := by
  have a_e := h1
  all_goals have b_e := h2
  all_goals first | exact Eq.trans a_e (Eq.symm b_e) | (exfalso; simp only [Int32.lt_iff_toInt_lt, Int32.le_iff_toInt_le, ← Int32.toInt_inj] at *; omega)
set_option maxHeartbeats 4000000 in
theorem eq_squares (r1 r2 : Int32) (u1 : Unit) (u2 : Unit) (h1 : (fun (r : Int32) (_ : Unit) => r = 0) r1 u1) (h2 : (fun (r : Int32) (_ : Unit) => r = 0) r2 u2) : r1 = r2 := by
  have a_e := h1
  all_goals have b_e := h2
  all_goals first | exact Eq.trans a_e (Eq.symm b_e) | (exfalso; simp only [Int32.lt_iff_toInt_lt, Int32.le_iff_toInt_le, ← Int32.toInt_inj] at *; omega)
set_option maxHeartbeats 4000000 in
theorem eq_betti (p1 p2 : Int32) (r1 r2 : Int32) (u1 : Nat) (u2 : Nat) (h1 : (fun (r : Int32) (u : Nat) => (u = 0 ∧ (p1 < 0) ∧ r = (-1)) ∨ (u = 1 ∧ (¬ p1 < 0) ∧ (5 ≤ p1) ∧ r = (-1)) ∨ (u = 2 ∧ (¬ p1 < 0) ∧ (¬ 5 ≤ p1) ∧ (p2 < 0) ∧ r = (-1)) ∨ (u = 3 ∧ p2 = 0 ∧ p1 = 0 ∧ r = 0) ∨ (u = 4 ∧ p2 = 0 ∧ p1 = 1 ∧ r = 0) ∨ (u = 5 ∧ p2 = 0 ∧ p1 = 2 ∧ r = 0) ∨ (u = 6 ∧ p2 = 0 ∧ p1 = 3 ∧ r = 0) ∨ (u = 7 ∧ p2 = 0 ∧ p1 = 4 ∧ r = 0) ∨ (u = 8 ∧ p2 = 1 ∧ p1 = 0 ∧ r = 0) ∨ (u = 9 ∧ p2 = 1 ∧ p1 = 1 ∧ r = 0) ∨ (u = 10 ∧ p2 = 1 ∧ p1 = 2 ∧ r = 0) ∨ (u = 11 ∧ p2 = 1 ∧ p1 = 3 ∧ r = 0) ∨ (u = 12 ∧ p2 = 1 ∧ p1 = 4 ∧ r = 0) ∨ (u = 13 ∧ (¬ p1 < 0) ∧ (¬ 5 ≤ p1) ∧ (¬ p2 < 0) ∧ (¬ p2 ≤ 1) ∧ r = (-1))) r1 u1) (h2 : (fun (r : Int32) (u : Nat) => (u = 0 ∧ (p1 < 0) ∧ r = (-1)) ∨ (u = 1 ∧ (¬ p1 < 0) ∧ (4 < p1) ∧ r = (-1)) ∨ (u = 2 ∧ (¬ p1 < 0) ∧ (¬ 4 < p1) ∧ (p2 < 0) ∧ r = (-1)) ∨ (u = 3 ∧ (¬ p1 < 0) ∧ (¬ 4 < p1) ∧ (¬ p2 < 0) ∧ (1 < p2) ∧ r = (-1)) ∨ (u = 4 ∧ p2 = 0 ∧ p1 = 0 ∧ r = 0) ∨ (u = 5 ∧ p2 = 0 ∧ p1 = 1 ∧ r = 0) ∨ (u = 6 ∧ p2 = 0 ∧ p1 = 2 ∧ r = 0) ∨ (u = 7 ∧ p2 = 0 ∧ p1 = 3 ∧ r = 0) ∨ (u = 8 ∧ p2 = 0 ∧ p1 = 4 ∧ r = 0) ∨ (u = 9 ∧ p2 = 1 ∧ p1 = 0 ∧ r = 0) ∨ (u = 10 ∧ p2 = 1 ∧ p1 = 1 ∧ r = 0) ∨ (u = 11 ∧ p2 = 1 ∧ p1 = 2 ∧ r = 0) ∨ (u = 12 ∧ p2 = 1 ∧ p1 = 3 ∧ r = 0) ∨ (u = 13 ∧ p2 = 1 ∧ p1 = 4 ∧ r = 0)) r2 u2) : r1 = r2 := by
  rcases h1 with ⟨-, a_0, a_e⟩ | ⟨-, a_0, a_1, a_e⟩ | ⟨-, a_0, a_1, a_2, a_e⟩ | ⟨-, a_0, a_1, a_e⟩ | ⟨-, a_0, a_1, a_e⟩ | ⟨-, a_0, a_1, a_e⟩ | ⟨-, a_0, a_1, a_e⟩ | ⟨-, a_0, a_1, a_e⟩ | ⟨-, a_0, a_1, a_e⟩ | ⟨-, a_0, a_1, a_e⟩ | ⟨-, a_0, a_1, a_e⟩ | ⟨-, a_0, a_1, a_e⟩ | ⟨-, a_0, a_1, a_e⟩ | ⟨-, a_0, a_1, a_2, a_3, a_e⟩
  all_goals rcases h2 with ⟨-, b_0, b_e⟩ | ⟨-, b_0, b_1, b_e⟩ | ⟨-, b_0, b_1, b_2, b_e⟩ | ⟨-, b_0, b_1, b_2, b_3, b_e⟩ | ⟨-, b_0, b_1, b_e⟩ | ⟨-, b_0, b_1, b_e⟩ | ⟨-, b_0, b_1, b_e⟩ | ⟨-, b_0, b_1, b_e⟩ | ⟨-, b_0, b_1, b_e⟩ | ⟨-, b_0, b_1, b_e⟩ | ⟨-, b_0, b_1, b_e⟩ | ⟨-, b_0, b_1, b_e⟩ | ⟨-, b_0, b_1, b_e⟩ | ⟨-, b_0, b_1, b_e⟩
  all_goals first | exact Eq.trans a_e (Eq.symm b_e) | (exfalso; simp only [Int32.lt_iff_toInt_lt, Int32.le_iff_toInt_le, ← Int32.toInt_inj, show ((0 : Int32)).toInt = 0 from by decide, show ((1 : Int32)).toInt = 1 from by decide, show ((2 : Int32)).toInt = 2 from by decide, show ((3 : Int32)).toInt = 3 from by decide, show ((4 : Int32)).toInt = 4 from by decide, show ((5 : Int32)).toInt = 5 from by decide] at *; omega)
set_option maxHeartbeats 4000000 in
theorem eq_torsion (p1 p2 p3 : Int32) (r1 r2 : Int64) (u1 : Nat) (u2 : Nat) (h1 : (fun (r : Int64) (u : Nat) => (u = 0 ∧ (p1 < 0) ∧ r = (-1)) ∨ (u = 1 ∧ (¬ p1 < 0) ∧ (5 ≤ p1) ∧ r = (-1)) ∨ (u = 2 ∧ (¬ p1 < 0) ∧ (¬ 5 ≤ p1) ∧ (p3 < 0) ∧ r = (-1)) ∨ (u = 3 ∧ (¬ p1 < 0) ∧ (¬ 5 ≤ p1) ∧ (¬ p3 < 0) ∧ (1 < p3) ∧ r = (-1)) ∨ (u = 4 ∧ ((-1) ≤ p2) ∧ p3 = 0 ∧ p1 = 0 ∧ (¬ p2 = (-1)) ∧ (0 ≤ p2) ∧ r = (-2)) ∨ (u = 5 ∧ ((-1) ≤ p2) ∧ p3 = 0 ∧ p1 = 0 ∧ (p2 = (-1)) ∧ r = 0) ∨ (u = 6 ∧ ((-1) ≤ p2) ∧ p3 = 0 ∧ p1 = 1 ∧ (¬ p2 = (-1)) ∧ (0 ≤ p2) ∧ r = (-2)) ∨ (u = 7 ∧ ((-1) ≤ p2) ∧ p3 = 0 ∧ p1 = 1 ∧ (p2 = (-1)) ∧ r = 0) ∨ (u = 8 ∧ ((-1) ≤ p2) ∧ p3 = 0 ∧ p1 = 2 ∧ (¬ p2 = (-1)) ∧ (0 ≤ p2) ∧ r = (-2)) ∨ (u = 9 ∧ ((-1) ≤ p2) ∧ p3 = 0 ∧ p1 = 2 ∧ (p2 = (-1)) ∧ r = 0) ∨ (u = 10 ∧ ((-1) ≤ p2) ∧ p3 = 0 ∧ p1 = 3 ∧ (¬ p2 = (-1)) ∧ (0 ≤ p2) ∧ r = (-2)) ∨ (u = 11 ∧ ((-1) ≤ p2) ∧ p3 = 0 ∧ p1 = 3 ∧ (p2 = (-1)) ∧ r = 0) ∨ (u = 12 ∧ ((-1) ≤ p2) ∧ p3 = 0 ∧ p1 = 4 ∧ (¬ p2 = (-1)) ∧ (0 ≤ p2) ∧ r = (-2)) ∨ (u = 13 ∧ ((-1) ≤ p2) ∧ p3 = 0 ∧ p1 = 4 ∧ (p2 = (-1)) ∧ r = 0) ∨ (u = 14 ∧ ((-1) ≤ p2) ∧ p3 = 1 ∧ p1 = 0 ∧ (¬ p2 = (-1)) ∧ (0 ≤ p2) ∧ r = (-2)) ∨ (u = 15 ∧ ((-1) ≤ p2) ∧ p3 = 1 ∧ p1 = 0 ∧ (p2 = (-1)) ∧ r = 0) ∨ (u = 16 ∧ ((-1) ≤ p2) ∧ p3 = 1 ∧ p1 = 1 ∧ (¬ p2 = (-1)) ∧ (0 ≤ p2) ∧ r = (-2)) ∨ (u = 17 ∧ ((-1) ≤ p2) ∧ p3 = 1 ∧ p1 = 1 ∧ (p2 = (-1)) ∧ r = 0) ∨ (u = 18 ∧ ((-1) ≤ p2) ∧ p3 = 1 ∧ p1 = 2 ∧ (¬ p2 = (-1)) ∧ (0 ≤ p2) ∧ r = (-2)) ∨ (u = 19 ∧ ((-1) ≤ p2) ∧ p3 = 1 ∧ p1 = 2 ∧ (p2 = (-1)) ∧ r = 0) ∨ (u = 20 ∧ ((-1) ≤ p2) ∧ p3 = 1 ∧ p1 = 3 ∧ (¬ p2 = (-1)) ∧ (0 ≤ p2) ∧ r = (-2)) ∨ (u = 21 ∧ ((-1) ≤ p2) ∧ p3 = 1 ∧ p1 = 3 ∧ (p2 = (-1)) ∧ r = 0) ∨ (u = 22 ∧ ((-1) ≤ p2) ∧ p3 = 1 ∧ p1 = 4 ∧ (¬ p2 = (-1)) ∧ (0 ≤ p2) ∧ r = (-2)) ∨ (u = 23 ∧ ((-1) ≤ p2) ∧ p3 = 1 ∧ p1 = 4 ∧ (p2 = (-1)) ∧ r = 0) ∨ (u = 24 ∧ (¬ p1 < 0) ∧ (¬ 5 ≤ p1) ∧ (¬ p3 < 0) ∧ (¬ 1 < p3) ∧ (¬ (-1) ≤ p2) ∧ r = (-1))) r1 u1) (h2 : (fun (r : Int64) (u : Nat) => (u = 0 ∧ (p1 < 0) ∧ r = (-1)) ∨ (u = 1 ∧ (¬ p1 < 0) ∧ (4 < p1) ∧ r = (-1)) ∨ (u = 2 ∧ (¬ p1 < 0) ∧ (¬ 4 < p1) ∧ (p3 < 0) ∧ r = (-1)) ∨ (u = 3 ∧ (¬ p1 < 0) ∧ (¬ 4 < p1) ∧ (¬ p3 < 0) ∧ (1 < p3) ∧ r = (-1)) ∨ (u = 4 ∧ (¬ p1 < 0) ∧ (¬ 4 < p1) ∧ ((-1) ≤ p2) ∧ p3 = 0 ∧ (¬ p2 = (-1)) ∧ r = (-2)) ∨ (u = 5 ∧ (¬ p1 < 0) ∧ (¬ 4 < p1) ∧ ((-1) ≤ p2) ∧ p3 = 0 ∧ (p2 = (-1)) ∧ r = 0) ∨ (u = 6 ∧ (¬ p1 < 0) ∧ (¬ 4 < p1) ∧ ((-1) ≤ p2) ∧ p3 = 1 ∧ (¬ p2 = (-1)) ∧ r = (-2)) ∨ (u = 7 ∧ (¬ p1 < 0) ∧ (¬ 4 < p1) ∧ ((-1) ≤ p2) ∧ p3 = 1 ∧ (p2 = (-1)) ∧ r = 0) ∨ (u = 8 ∧ (¬ p1 < 0) ∧ (¬ 4 < p1) ∧ (¬ p3 < 0) ∧ (¬ 1 < p3) ∧ (¬ (-1) ≤ p2) ∧ r = (-1))) r2 u2) : r1 = r2 := by
  rcases h1 with ⟨-, a_0, a_e⟩ | ⟨-, a_0, a_1, a_e⟩ | ⟨-, a_0, a_1, a_2, a_e⟩ | ⟨-, a_0, a_1, a_2, a_3, a_e⟩ | ⟨-, a_0, a_1, a_2, a_3, a_4, a_e⟩ | ⟨-, a_0, a_1, a_2, a_3, a_e⟩ | ⟨-, a_0, a_1, a_2, a_3, a_4, a_e⟩ | ⟨-, a_0, a_1, a_2, a_3, a_e⟩ | ⟨-, a_0, a_1, a_2, a_3, a_4, a_e⟩ | ⟨-, a_0, a_1, a_2, a_3, a_e⟩ | ⟨-, a_0, a_1, a_2, a_3, a_4, a_e⟩ | ⟨-, a_0, a_1, a_2, a_3, a_e⟩ | ⟨-, a_0, a_1, a_2, a_3, a_4, a_e⟩ | ⟨-, a_0, a_1, a_2, a_3, a_e⟩ | ⟨-, a_0, a_1, a_2, a_3, a_4, a_e⟩ | ⟨-, a_0, a_1, a_2, a_3, a_e⟩ | ⟨-, a_0, a_1, a_2, a_3, a_4, a_e⟩ | ⟨-, a_0, a_1, a_2, a_3, a_e⟩ | ⟨-, a_0, a_1, a_2, a_3, a_4, a_e⟩ | ⟨-, a_0, a_1, a_2, a_3, a_e⟩ | ⟨-, a_0, a_1, a_2, a_3, a_4, a_e⟩ | ⟨-, a_0, a_1, a_2, a_3, a_e⟩ | ⟨-, a_0, a_1, a_2, a_3, a_4, a_e⟩ | ⟨-, a_0, a_1, a_2, a_3, a_e⟩ | ⟨-, a_0, a_1, a_2, a_3, a_4, a_e⟩
  all_goals rcases h2 with ⟨-, b_0, b_e⟩ | ⟨-, b_0, b_1, b_e⟩ | ⟨-, b_0, b_1, b_2, b_e⟩ | ⟨-, b_0, b_1, b_2, b_3, b_e⟩ | ⟨-, b_0, b_1, b_2, b_3, b_4, b_e⟩ | ⟨-, b_0, b_1, b_2, b_3, b_4, b_e⟩ | ⟨-, b_0, b_1, b_2, b_3, b_4, b_e⟩ | ⟨-, b_0, b_1, b_2, b_3, b_4, b_e⟩ | ⟨-, b_0, b_1, b_2, b_3, b_4, b_e⟩
  all_goals first | exact Eq.trans a_e (Eq.symm b_e) | (exfalso; simp only [Int32.lt_iff_toInt_lt, Int32.le_iff_toInt_le, ← Int32.toInt_inj, show ((-1 : Int32)).toInt = -1 from by decide, show ((0 : Int32)).toInt = 0 from by decide, show ((1 : Int32)).toInt = 1 from by decide, show ((2 : Int32)).toInt = 2 from by decide, show ((3 : Int32)).toInt = 3 from by decide, show ((4 : Int32)).toInt = 4 from by decide, show ((5 : Int32)).toInt = 5 from by decide] at *; omega)
set_option maxHeartbeats 4000000 in
theorem eq_slack (p1 : Int32) (r1 r2 : Int32) (u1 : Nat) (u2 : Nat) (h1 : (fun (r : Int32) (u : Nat) => (u = 0 ∧ (p1 < 0) ∧ r = (-2147483648)) ∨ (u = 1 ∧ (¬ p1 < 0) ∧ (5 ≤ p1) ∧ r = (-2147483648)) ∨ (u = 2 ∧ (¬ p1 < 0) ∧ (¬ 5 ≤ p1) ∧ (¬ p1 < 0) ∧ (p1 < 1) ∧ r = 0) ∨ (u = 3 ∧ (¬ p1 < 0) ∧ (¬ 5 ≤ p1) ∧ (¬ p1 < 0) ∧ (¬ p1 < 1) ∧ (p1 < 2) ∧ r = 0) ∨ (u = 4 ∧ (¬ p1 < 0) ∧ (¬ 5 ≤ p1) ∧ (¬ p1 < 0) ∧ (¬ p1 < 1) ∧ (¬ p1 < 2) ∧ (p1 < 3) ∧ r = 0) ∨ (u = 5 ∧ (¬ p1 < 0) ∧ (¬ 5 ≤ p1) ∧ (¬ p1 < 0) ∧ (¬ p1 < 1) ∧ (¬ p1 < 2) ∧ (¬ p1 < 3) ∧ (p1 < 4) ∧ r = 0) ∨ (u = 6 ∧ (¬ p1 < 0) ∧ (¬ 5 ≤ p1) ∧ (¬ p1 < 0) ∧ (¬ p1 < 1) ∧ (¬ p1 < 2) ∧ (¬ p1 < 3) ∧ (¬ p1 < 4) ∧ (p1 < 5) ∧ r = 0)) r1 u1) (h2 : (fun (r : Int32) (u : Nat) => (u = 0 ∧ (p1 < 0) ∧ r = (-2147483648)) ∨ (u = 1 ∧ (¬ p1 < 0) ∧ (4 < p1) ∧ r = (-2147483648)) ∨ (u = 2 ∧ (¬ p1 < 0) ∧ (¬ 4 < p1) ∧ (¬ p1 < 0) ∧ (p1 < 1) ∧ r = 0) ∨ (u = 3 ∧ (¬ p1 < 0) ∧ (¬ 4 < p1) ∧ (¬ p1 < 0) ∧ (¬ p1 < 1) ∧ (p1 < 2) ∧ r = 0) ∨ (u = 4 ∧ (¬ p1 < 0) ∧ (¬ 4 < p1) ∧ (¬ p1 < 0) ∧ (¬ p1 < 1) ∧ (¬ p1 < 2) ∧ (p1 < 3) ∧ r = 0) ∨ (u = 5 ∧ (¬ p1 < 0) ∧ (¬ 4 < p1) ∧ (¬ p1 < 0) ∧ (¬ p1 < 1) ∧ (¬ p1 < 2) ∧ (¬ p1 < 3) ∧ (p1 < 4) ∧ r = 0) ∨ (u = 6 ∧ (¬ p1 < 0) ∧ (¬ 4 < p1) ∧ (¬ p1 < 0) ∧ (¬ p1 < 1) ∧ (¬ p1 < 2) ∧ (¬ p1 < 3) ∧ (¬ p1 < 4) ∧ (p1 < 5) ∧ r = 0)) r2 u2) : r1 = r2 := by
  rcases h1 with ⟨-, a_0, a_e⟩ | ⟨-, a_0, a_1, a_e⟩ | ⟨-, a_0, a_1, a_2, a_3, a_e⟩ | ⟨-, a_0, a_1, a_2, a_3, a_4, a_e⟩ | ⟨-, a_0, a_1, a_2, a_3, a_4, a_5, a_e⟩ | ⟨-, a_0, a_1, a_2, a_3, a_4, a_5, a_6, a_e⟩ | ⟨-, a_0, a_1, a_2, a_3, a_4, a_5, a_6, a_7, a_e⟩
  all_goals rcases h2 with ⟨-, b_0, b_e⟩ | ⟨-, b_0, b_1, b_e⟩ | ⟨-, b_0, b_1, b_2, b_3, b_e⟩ | ⟨-, b_0, b_1, b_2, b_3, b_4, b_e⟩ | ⟨-, b_0, b_1, b_2, b_3, b_4, b_5, b_e⟩ | ⟨-, b_0, b_1, b_2, b_3, b_4, b_5, b_6, b_e⟩ | ⟨-, b_0, b_1, b_2, b_3, b_4, b_5, b_6, b_7, b_e⟩
  all_goals first | exact Eq.trans a_e (Eq.symm b_e) | (exfalso; simp only [Int32.lt_iff_toInt_lt, Int32.le_iff_toInt_le, ← Int32.toInt_inj, show ((0 : Int32)).toInt = 0 from by decide, show ((1 : Int32)).toInt = 1 from by decide, show ((2 : Int32)).toInt = 2 from by decide, show ((3 : Int32)).toInt = 3 from by decide, show ((4 : Int32)).toInt = 4 from by decide, show ((5 : Int32)).toInt = 5 from by decide] at *; omega)
set_option maxHeartbeats 4000000 in
theorem eq_free (p1 : Int32) (r1 r2 : Int32) (u1 : Nat) (u2 : Nat) (h1 : (fun (r : Int32) (u : Nat) => (u = 0 ∧ ((-1) ≤ p1) ∧ (¬ p1 = (-1)) ∧ (0 ≤ p1) ∧ r = (-2)) ∨ (u = 1 ∧ ((-1) ≤ p1) ∧ (¬ p1 = (-1)) ∧ (¬ 0 ≤ p1) ∧ r = 0) ∨ (u = 2 ∧ ((-1) ≤ p1) ∧ (p1 = (-1)) ∧ r = 0) ∨ (u = 3 ∧ (¬ (-1) ≤ p1) ∧ r = (-1))) r1 u1) (h2 : (fun (r : Int32) (u : Nat) => (u = 0 ∧ ((-1) ≤ p1) ∧ (¬ p1 = (-1)) ∧ r = (-2)) ∨ (u = 1 ∧ ((-1) ≤ p1) ∧ (p1 = (-1)) ∧ r = 0) ∨ (u = 2 ∧ (¬ (-1) ≤ p1) ∧ r = (-1))) r2 u2) : r1 = r2 := by
  rcases h1 with ⟨-, a_0, a_1, a_2, a_e⟩ | ⟨-, a_0, a_1, a_2, a_e⟩ | ⟨-, a_0, a_1, a_e⟩ | ⟨-, a_0, a_e⟩
  all_goals rcases h2 with ⟨-, b_0, b_1, b_e⟩ | ⟨-, b_0, b_1, b_e⟩ | ⟨-, b_0, b_e⟩
  all_goals first | exact Eq.trans a_e (Eq.symm b_e) | (exfalso; simp only [Int32.lt_iff_toInt_lt, Int32.le_iff_toInt_le, ← Int32.toInt_inj, show ((-1 : Int32)).toInt = -1 from by decide, show ((0 : Int32)).toInt = 0 from by decide] at *; omega)
set_option maxHeartbeats 4000000 in
theorem eq_facet (p1 : Int32) (r1 r2 : Int32) (u1 : Nat) (u2 : Nat) (h1 : (fun (r : Int32) (u : Nat) => (u = 0 ∧ ((-1) ≤ p1) ∧ (¬ p1 = (-1)) ∧ (0 ≤ p1) ∧ r = (-2)) ∨ (u = 1 ∧ ((-1) ≤ p1) ∧ (¬ p1 = (-1)) ∧ (¬ 0 ≤ p1) ∧ r = 0) ∨ (u = 2 ∧ ((-1) ≤ p1) ∧ (p1 = (-1)) ∧ r = 0) ∨ (u = 3 ∧ (¬ (-1) ≤ p1) ∧ r = (-1))) r1 u1) (h2 : (fun (r : Int32) (u : Nat) => (u = 0 ∧ ((-1) ≤ p1) ∧ (¬ p1 = (-1)) ∧ r = (-2)) ∨ (u = 1 ∧ ((-1) ≤ p1) ∧ (p1 = (-1)) ∧ r = 0) ∨ (u = 2 ∧ (¬ (-1) ≤ p1) ∧ r = (-1))) r2 u2) : r1 = r2 := by
  rcases h1 with ⟨-, a_0, a_1, a_2, a_e⟩ | ⟨-, a_0, a_1, a_2, a_e⟩ | ⟨-, a_0, a_1, a_e⟩ | ⟨-, a_0, a_e⟩
  all_goals rcases h2 with ⟨-, b_0, b_1, b_e⟩ | ⟨-, b_0, b_1, b_e⟩ | ⟨-, b_0, b_e⟩
  all_goals first | exact Eq.trans a_e (Eq.symm b_e) | (exfalso; simp only [Int32.lt_iff_toInt_lt, Int32.le_iff_toInt_le, ← Int32.toInt_inj, show ((-1 : Int32)).toInt = -1 from by decide, show ((0 : Int32)).toInt = 0 from by decide] at *; omega)
set_option maxHeartbeats 4000000 in
theorem eq_link (p1 p2 : Int32) (r1 r2 : Int32) (u1 : Unit) (u2 : Unit) (h1 : (fun (r : Int32) (_ : Unit) => r = (-2147483648)) r1 u1) (h2 : (fun (r : Int32) (_ : Unit) => r = (-2147483648)) r2 u2) : r1 = r2 := by
  have a_e := h1
  all_goals have b_e := h2
  all_goals first | exact Eq.trans a_e (Eq.symm b_e) | (exfalso; simp only [Int32.lt_iff_toInt_lt, Int32.le_iff_toInt_le, ← Int32.toInt_inj] at *; omega)
set_option maxHeartbeats 4000000 in
theorem eq_room (p1 : Int32) (r1 r2 : Int32) (u1 : Nat) (u2 : Nat) (h1 : (fun (r : Int32) (u : Nat) => (u = 0 ∧ (p1 < 0) ∧ r = (-1)) ∨ (u = 1 ∧ (¬ p1 < 0) ∧ (5 ≤ p1) ∧ r = (-1)) ∨ (u = 2 ∧ (¬ p1 < 0) ∧ (¬ 5 ≤ p1) ∧ r = 0)) r1 u1) (h2 : (fun (r : Int32) (u : Nat) => (u = 0 ∧ (p1 < 0) ∧ r = (-1)) ∨ (u = 1 ∧ (¬ p1 < 0) ∧ (4 < p1) ∧ r = (-1)) ∨ (u = 2 ∧ (¬ p1 < 0) ∧ (¬ 4 < p1) ∧ r = 0)) r2 u2) : r1 = r2 := by
  rcases h1 with ⟨-, a_0, a_e⟩ | ⟨-, a_0, a_1, a_e⟩ | ⟨-, a_0, a_1, a_e⟩
  all_goals rcases h2 with ⟨-, b_0, b_e⟩ | ⟨-, b_0, b_1, b_e⟩ | ⟨-, b_0, b_1, b_e⟩
  all_goals first | exact Eq.trans a_e (Eq.symm b_e) | (exfalso; simp only [Int32.lt_iff_toInt_lt, Int32.le_iff_toInt_le, ← Int32.toInt_inj, show ((0 : Int32)).toInt = 0 from by decide, show ((4 : Int32)).toInt = 4 from by decide, show ((5 : Int32)).toInt = 5 from by decide] at *; omega)
set_option maxHeartbeats 4000000 in
theorem eq_draws (p1 : Int32) (r1 r2 : Int32) (u1 : Nat) (u2 : Nat) (h1 : (fun (r : Int32) (u : Nat) => (u = 0 ∧ (0 ≤ p1) ∧ r = 0) ∨ (u = 1 ∧ (¬ 0 ≤ p1) ∧ r = (-1))) r1 u1) (h2 : (fun (r : Int32) (u : Nat) => (u = 0 ∧ (0 ≤ p1) ∧ r = 0) ∨ (u = 1 ∧ (¬ 0 ≤ p1) ∧ r = (-1))) r2 u2) : r1 = r2 := by
  rcases h1 with ⟨-, a_0, a_e⟩ | ⟨-, a_0, a_e⟩
  all_goals rcases h2 with ⟨-, b_0, b_e⟩ | ⟨-, b_0, b_e⟩
  all_goals first | exact Eq.trans a_e (Eq.symm b_e) | (exfalso; simp only [Int32.lt_iff_toInt_lt, Int32.le_iff_toInt_le, ← Int32.toInt_inj, show ((0 : Int32)).toInt = 0 from by decide] at *; omega)
set_option maxHeartbeats 4000000 in
theorem eq_drawn (p1 p2 : Int32) (r1 r2 : Int32) (u1 : Unit) (u2 : Unit) (h1 : (fun (r : Int32) (_ : Unit) => r = (-1)) r1 u1) (h2 : (fun (r : Int32) (_ : Unit) => r = (-1)) r2 u2) : r1 = r2 := by
  have a_e := h1
  all_goals have b_e := h2
  all_goals first | exact Eq.trans a_e (Eq.symm b_e) | (exfalso; simp only [Int32.lt_iff_toInt_lt, Int32.le_iff_toInt_le, ← Int32.toInt_inj] at *; omega)
set_option maxHeartbeats 4000000 in
theorem eq_level (p1 p2 : Int32) (r1 r2 : Int32) (u1 : Nat) (u2 : Nat) (h1 : (fun (r : Int32) (u : Nat) => (u = 0 ∧ (p1 < 0) ∧ r = (-1)) ∨ (u = 1 ∧ (¬ p1 < 0) ∧ (p2 < 0) ∧ r = (-1)) ∨ (u = 2 ∧ (¬ p1 < 0) ∧ (¬ p2 < 0) ∧ (p2 ≤ 1) ∧ (¬ p2 = 0) ∧ r = 0) ∨ (u = 3 ∧ (¬ p1 < 0) ∧ (¬ p2 < 0) ∧ (p2 ≤ 1) ∧ (p2 = 0) ∧ r = 0) ∨ (u = 4 ∧ (¬ p1 < 0) ∧ (¬ p2 < 0) ∧ (¬ p2 ≤ 1) ∧ r = (-1))) r1 u1) (h2 : (fun (r : Int32) (u : Nat) => (u = 0 ∧ (p1 < 0) ∧ r = (-1)) ∨ (u = 1 ∧ (¬ p1 < 0) ∧ (p2 < 0) ∧ r = (-1)) ∨ (u = 2 ∧ (¬ p1 < 0) ∧ (¬ p2 < 0) ∧ (1 < p2) ∧ r = (-1)) ∨ (u = 3 ∧ (¬ p1 < 0) ∧ (¬ p2 < 0) ∧ (¬ 1 < p2) ∧ r = 0)) r2 u2) : r1 = r2 := by
  rcases h1 with ⟨-, a_0, a_e⟩ | ⟨-, a_0, a_1, a_e⟩ | ⟨-, a_0, a_1, a_2, a_3, a_e⟩ | ⟨-, a_0, a_1, a_2, a_3, a_e⟩ | ⟨-, a_0, a_1, a_2, a_e⟩
  all_goals rcases h2 with ⟨-, b_0, b_e⟩ | ⟨-, b_0, b_1, b_e⟩ | ⟨-, b_0, b_1, b_2, b_e⟩ | ⟨-, b_0, b_1, b_2, b_e⟩
  all_goals first | exact Eq.trans a_e (Eq.symm b_e) | (exfalso; simp only [Int32.lt_iff_toInt_lt, Int32.le_iff_toInt_le, ← Int32.toInt_inj, show ((0 : Int32)).toInt = 0 from by decide, show ((1 : Int32)).toInt = 1 from by decide] at *; omega)
set_option maxHeartbeats 4000000 in
theorem eq_levelBetti (p1 p2 : Int32) (r1 r2 : Int32) (u1 : Nat) (u2 : Nat) (h1 : (fun (r : Int32) (u : Nat) => (u = 0 ∧ (p1 < 0) ∧ r = (-1)) ∨ (u = 1 ∧ (¬ p1 < 0) ∧ (p2 < 0) ∧ r = (-1)) ∨ (u = 2 ∧ (¬ p1 < 0) ∧ (¬ p2 < 0) ∧ (5 ≤ p2) ∧ r = (-1)) ∨ (u = 3 ∧ (¬ p1 < 0) ∧ p2 = 0 ∧ r = 0) ∨ (u = 4 ∧ (¬ p1 < 0) ∧ p2 = 1 ∧ r = 0) ∨ (u = 5 ∧ (¬ p1 < 0) ∧ p2 = 2 ∧ r = 0) ∨ (u = 6 ∧ (¬ p1 < 0) ∧ p2 = 3 ∧ r = 0) ∨ (u = 7 ∧ (¬ p1 < 0) ∧ p2 = 4 ∧ r = 0)) r1 u1) (h2 : (fun (r : Int32) (u : Nat) => (u = 0 ∧ (p1 < 0) ∧ r = (-1)) ∨ (u = 1 ∧ (¬ p1 < 0) ∧ (p2 < 0) ∧ r = (-1)) ∨ (u = 2 ∧ (¬ p1 < 0) ∧ (¬ p2 < 0) ∧ (4 < p2) ∧ r = (-1)) ∨ (u = 3 ∧ (¬ p1 < 0) ∧ p2 = 0 ∧ r = 0) ∨ (u = 4 ∧ (¬ p1 < 0) ∧ p2 = 1 ∧ r = 0) ∨ (u = 5 ∧ (¬ p1 < 0) ∧ p2 = 2 ∧ r = 0) ∨ (u = 6 ∧ (¬ p1 < 0) ∧ p2 = 3 ∧ r = 0) ∨ (u = 7 ∧ (¬ p1 < 0) ∧ p2 = 4 ∧ r = 0)) r2 u2) : r1 = r2 := by
  rcases h1 with ⟨-, a_0, a_e⟩ | ⟨-, a_0, a_1, a_e⟩ | ⟨-, a_0, a_1, a_2, a_e⟩ | ⟨-, a_0, a_1, a_e⟩ | ⟨-, a_0, a_1, a_e⟩ | ⟨-, a_0, a_1, a_e⟩ | ⟨-, a_0, a_1, a_e⟩ | ⟨-, a_0, a_1, a_e⟩
  all_goals rcases h2 with ⟨-, b_0, b_e⟩ | ⟨-, b_0, b_1, b_e⟩ | ⟨-, b_0, b_1, b_2, b_e⟩ | ⟨-, b_0, b_1, b_e⟩ | ⟨-, b_0, b_1, b_e⟩ | ⟨-, b_0, b_1, b_e⟩ | ⟨-, b_0, b_1, b_e⟩ | ⟨-, b_0, b_1, b_e⟩
  all_goals first | exact Eq.trans a_e (Eq.symm b_e) | (exfalso; simp only [Int32.lt_iff_toInt_lt, Int32.le_iff_toInt_le, ← Int32.toInt_inj, show ((0 : Int32)).toInt = 0 from by decide, show ((1 : Int32)).toInt = 1 from by decide, show ((2 : Int32)).toInt = 2 from by decide, show ((3 : Int32)).toInt = 3 from by decide, show ((4 : Int32)).toInt = 4 from by decide, show ((5 : Int32)).toInt = 5 from by decide] at *; omega)
set_option maxHeartbeats 4000000 in
theorem eq_keep (p1 : Int32) (r1 r2 : Int32) (u1 : Unit) (u2 : Unit) (h1 : (fun (r : Int32) (_ : Unit) => r = (-1)) r1 u1) (h2 : (fun (r : Int32) (_ : Unit) => r = (-1)) r2 u2) : r1 = r2 := by
  have a_e := h1
  all_goals have b_e := h2
  all_goals first | exact Eq.trans a_e (Eq.symm b_e) | (exfalso; simp only [Int32.lt_iff_toInt_lt, Int32.le_iff_toInt_le, ← Int32.toInt_inj] at *; omega)
set_option maxHeartbeats 4000000 in
theorem eq_same (p1 : Int32) (r1 r2 : Int32) (u1 : Nat) (u2 : Nat) (h1 : (fun (r : Int32) (u : Nat) => (u = 0 ∧ (p1 < 0) ∧ r = (-1)) ∨ (u = 1 ∧ p1 = 0 ∧ r = (-2)) ∨ (u = 2 ∧ p1 = 1 ∧ r = (-2)) ∨ (u = 3 ∧ p1 = 2 ∧ r = (-2)) ∨ (u = 4 ∧ (¬ p1 < 0) ∧ (¬ p1 < 3) ∧ r = (-1))) r1 u1) (h2 : (fun (r : Int32) (u : Nat) => (u = 0 ∧ (p1 < 0) ∧ r = (-1)) ∨ (u = 1 ∧ (¬ p1 < 0) ∧ (2 < p1) ∧ r = (-1)) ∨ (u = 2 ∧ p1 = 0 ∧ r = (-2)) ∨ (u = 3 ∧ p1 = 1 ∧ r = (-2)) ∨ (u = 4 ∧ p1 = 2 ∧ r = (-2))) r2 u2) : r1 = r2 := by
  rcases h1 with ⟨-, a_0, a_e⟩ | ⟨-, a_0, a_e⟩ | ⟨-, a_0, a_e⟩ | ⟨-, a_0, a_e⟩ | ⟨-, a_0, a_1, a_e⟩
  all_goals rcases h2 with ⟨-, b_0, b_e⟩ | ⟨-, b_0, b_1, b_e⟩ | ⟨-, b_0, b_e⟩ | ⟨-, b_0, b_e⟩ | ⟨-, b_0, b_e⟩
  all_goals first | exact Eq.trans a_e (Eq.symm b_e) | (exfalso; simp only [Int32.lt_iff_toInt_lt, Int32.le_iff_toInt_le, ← Int32.toInt_inj, show ((0 : Int32)).toInt = 0 from by decide, show ((1 : Int32)).toInt = 1 from by decide, show ((2 : Int32)).toInt = 2 from by decide, show ((3 : Int32)).toInt = 3 from by decide] at *; omega)
set_option maxHeartbeats 4000000 in
theorem eq_count (p1 : Int32) (r1 r2 : Int32) (u1 : Nat) (u2 : Nat) (h1 : (fun (r : Int32) (u : Nat) => (u = 0 ∧ (p1.toInt < 0 ∨ 9 < p1.toInt) ∧ r = (-1)) ∨ (u = 1 ∧ p1 = 0 ∧ r = 0) ∨ (u = 2 ∧ p1 = 1 ∧ r = 0) ∨ (u = 3 ∧ p1 = 2 ∧ r = (-1)) ∨ (u = 4 ∧ p1 = 3 ∧ r = 0) ∨ (u = 5 ∧ p1 = 4 ∧ r = 0) ∨ (u = 6 ∧ p1 = 5 ∧ r = 0) ∨ (u = 7 ∧ p1 = 6 ∧ r = 0) ∨ (u = 8 ∧ p1 = 7 ∧ r = 0) ∨ (u = 9 ∧ p1 = 8 ∧ r = 0) ∨ (u = 10 ∧ p1 = 9 ∧ r = 0)) r1 u1) (h2 : (fun (r : Int32) (u : Nat) => (u = 0 ∧ (p1.toInt < 0 ∨ 9 < p1.toInt) ∧ r = (-1)) ∨ (u = 1 ∧ p1 = 0 ∧ r = 0) ∨ (u = 2 ∧ p1 = 1 ∧ r = 0) ∨ (u = 3 ∧ p1 = 2 ∧ r = (-1)) ∨ (u = 4 ∧ p1 = 3 ∧ r = 0) ∨ (u = 5 ∧ p1 = 4 ∧ r = 0) ∨ (u = 6 ∧ p1 = 5 ∧ r = 0) ∨ (u = 7 ∧ p1 = 6 ∧ r = 0) ∨ (u = 8 ∧ p1 = 7 ∧ r = 0) ∨ (u = 9 ∧ p1 = 8 ∧ r = 0) ∨ (u = 10 ∧ p1 = 9 ∧ r = 0)) r2 u2) : r1 = r2 := by
  rcases h1 with ⟨-, a_0, a_e⟩ | ⟨-, a_0, a_e⟩ | ⟨-, a_0, a_e⟩ | ⟨-, a_0, a_e⟩ | ⟨-, a_0, a_e⟩ | ⟨-, a_0, a_e⟩ | ⟨-, a_0, a_e⟩ | ⟨-, a_0, a_e⟩ | ⟨-, a_0, a_e⟩ | ⟨-, a_0, a_e⟩ | ⟨-, a_0, a_e⟩
  all_goals rcases h2 with ⟨-, b_0, b_e⟩ | ⟨-, b_0, b_e⟩ | ⟨-, b_0, b_e⟩ | ⟨-, b_0, b_e⟩ | ⟨-, b_0, b_e⟩ | ⟨-, b_0, b_e⟩ | ⟨-, b_0, b_e⟩ | ⟨-, b_0, b_e⟩ | ⟨-, b_0, b_e⟩ | ⟨-, b_0, b_e⟩ | ⟨-, b_0, b_e⟩
  all_goals first | exact Eq.trans a_e (Eq.symm b_e) | (exfalso; simp only [Int32.lt_iff_toInt_lt, Int32.le_iff_toInt_le, ← Int32.toInt_inj, show ((0 : Int32)).toInt = 0 from by decide, show ((1 : Int32)).toInt = 1 from by decide, show ((2 : Int32)).toInt = 2 from by decide, show ((3 : Int32)).toInt = 3 from by decide, show ((4 : Int32)).toInt = 4 from by decide, show ((5 : Int32)).toInt = 5 from by decide, show ((6 : Int32)).toInt = 6 from by decide, show ((7 : Int32)).toInt = 7 from by decide, show ((8 : Int32)).toInt = 8 from by decide, show ((9 : Int32)).toInt = 9 from by decide] at *; omega)
