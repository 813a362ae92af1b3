/-! ===== what methods come to, without the machine: leaves of the reference ===== -/
theorem q_truth (k : Nat) (a : Int32) (Q : Int32 → Prop) (h : Q (if a = 0 then 0 else 1)) : wqX12_truth (k + 1) a Q := by
  show wbX12_truth_0 (wpX12_truth k) k (uI (fun _ => 0) 0 a) (fun _ => 0) Q
  refine ⟨fun c => ?_, fun c => ?_⟩
  · rw [if_pos (show a = 0 from c)] at h; exact h
  · rw [if_neg (show ¬ a = 0 from c)] at h; exact h
theorem q_in (k : Nat) (v lo hi : Int32) (Q : Int32 → Prop) (h : Q (if lo ≤ v ∧ v ≤ hi then 1 else 0)) : wqX12_in (k + 2) v lo hi Q := by
  show wbX12_in_0 (wpX12_in (k + 1)) (k + 1) (uI (uI (uI (fun _ => 0) 0 v) 1 lo) 2 hi) (fun _ => 0) Q
  refine ⟨fun c => ?_, fun c => ⟨fun d => ?_, fun d => ?_⟩⟩
  · rw [if_neg (fun q => Int32.not_le.mpr (show v < lo from c) q.1)] at h; exact h
  · rw [if_neg (fun q => Int32.not_le.mpr (show hi < v from d) q.2)] at h; exact h
  · rw [if_pos ⟨Int32.not_lt.mp (show ¬ v < lo from c), Int32.not_lt.mp (show ¬ hi < v from d)⟩] at h; exact h
theorem q_isSimplex (k : Nat) (t : XT) (s : Int32) (Q : Int32 → XT → Prop) (h : Q (if 0 ≤ s ∧ s ≤ t.1 3 - 1 then 1 else 0) t) : wqX12_isSimplex (k + 3) t s Q := by
  show wbX12_isSimplex_0 (wpX12_isSimplex (k + 2)) (k + 2) t (uI (fun _ => 0) 1 s) (fun _ => 0) Q
  intro v ev
  subst ev
  refine q_in k s 0 (t.1 3 - 1) _ ⟨?_, h⟩
  by_cases c : 0 ≤ s ∧ s ≤ t.1 3 - 1
  · rw [if_pos c]; exact Or.inr rfl
  · rw [if_neg c]; exact Or.inl rfl
theorem q_endM (k : Nat) (t : XT) (n : Int32) (Q : Int32 → XT → Prop) (h : if n < 0 ∨ t.1 0 < n then Q (-1) t else Q n (sI t 0 n)) : wqX12_end (k + 2) t n Q := by
  show wbX12_end_0 (wpX12_end (k + 1)) (k + 1) t (uI (fun _ => 0) 1 n) (fun _ => 0) Q
  refine ⟨fun c => ?_, fun c => ⟨fun d => ?_, fun d => ?_⟩⟩
  · rw [if_pos (Or.inl (show n < 0 from c))] at h; exact h
  · intro t3 e3
    subst e3
    rw [if_neg (fun q => q.elim c (fun q => Int32.not_lt.mpr (show n ≤ t.1 0 from d) q))] at h; exact h
  · rw [if_pos (Or.inr (Int32.not_le.mp (show ¬ n ≤ t.1 0 from d)))] at h; exact h
