/-! ===== the law of p2 from its entry, over hq_point and the class's calls ===== -/
def tx0 : XT := (fun i => match i with | 7 => -1 | _ => 0, fun _ => 0, fun i => match i with | 4 => fun _ => -1 | 5 => fun _ => -1 | _ => fun _ => 0, fun _ _ => 0)
def tm0 : XT := (fun _ => 0, fun _ => 0, fun _ _ => 0, fun _ _ => 0)
theorem hr_0 : hr tm0 0 := by
  refine ⟨by omega, rfl, by decide, 0, 0, ⟨rfl, by omega, fun f s h => absurd h (by omega), ?_, ?_, by omega, rfl, fun j h => absurd h (by omega), ?_⟩, ?_⟩
  · exact fun k h => absurd h (by omega)
  · exact ⟨fun _ => 0, fun f h => absurd h (by omega), fun f g h => absurd h (by omega)⟩
  · exact ⟨fun k h => absurd h (by omega), fun j h => absurd h (by omega)⟩
  · exact ⟨fun k h => absurd h (by omega), fun a _ h => absurd h (by omega), fun k a b h => absurd h (by omega)⟩
theorem hd_0 : hd tx0 0 := by
  refine ⟨0, ⟨rfl, rfl, by omega, ⟨0, by omega, rfl⟩, ⟨0, by omega, rfl⟩, fun k _ => ⟨0, by omega, rfl⟩, fun a _ => Or.inl rfl, fun k _ => Or.inl rfl, fun i _ => ⟨0, by omega, rfl⟩, fun i _ => Or.inr ⟨0, by omega, rfl⟩, ⟨0, 0, by omega, by omega, by omega, rfl, rfl⟩⟩, ⟨0, by omega, rfl, fun k h => absurd h (by omega), fun d k _ h => ?_⟩⟩
  have h : hb 0 k = true := h
  rw [hb_0] at h
  exact absurd h (by decide)
