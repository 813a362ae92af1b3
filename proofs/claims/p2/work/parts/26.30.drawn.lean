/-! ===== drawn puts x back, on both sides ===== -/
theorem vyX11_drawn {x : Int32} {k : Nat} {t : XT} {a1 a2 : Int32} {Q Q' : Int32 → XT → Prop} (g : t.1 0 = x) (hR : wqX11_drawn k t a1 a2 Q) (hQ : ∀ r t, Q r t → t.1 0 = x → Q' r t) : wqX11_drawn k t a1 a2 Q' := by
  have all : ∀ k, (∀ (t : XT) (li : Nat → Int32) (lj : Nat → Int64), t.1 0 = x → wpX11_drawn k 0 t li lj Q → wpX11_drawn k 0 t li lj Q') ∧ (∀ (t : XT) (li : Nat → Int32) (lj : Nat → Int64), t.1 0 = x → wpX11_drawn k 1 t li lj Q → wpX11_drawn k 1 t li lj Q') ∧ (∀ (t : XT) (li : Nat → Int32) (lj : Nat → Int64), li 3 = x → wpX11_drawn k 2 t li lj Q → wpX11_drawn k 2 t li lj Q') ∧ (∀ (t : XT) (li : Nat → Int32) (lj : Nat → Int64), li 3 = x → wpX11_drawn k 3 t li lj Q → wpX11_drawn k 3 t li lj Q') ∧ (∀ (t : XT) (li : Nat → Int32) (lj : Nat → Int64), li 3 = x → wpX11_drawn k 4 t li lj Q → wpX11_drawn k 4 t li lj Q') := by
    intro k
    induction k with
    | zero => exact ⟨fun _ _ _ _ h => False.elim h, fun _ _ _ _ h => False.elim h, fun _ _ _ _ h => False.elim h, fun _ _ _ _ h => False.elim h, fun _ _ _ _ h => False.elim h⟩
    | succ k ih =>
      refine ⟨?_, ?_, ?_, ?_, ?_⟩
      · intro t li lj g hR
        have hR : wbX11_drawn_0 (wpX11_drawn k) k t li lj Q := hR
        show wbX11_drawn_0 (wpX11_drawn k) k t li lj Q'
        exact ⟨fun c1 => ih.2.1 _ _ _ g (hR.1 c1), fun c2 => ⟨fun c3 => ih.2.1 _ _ _ g ((hR.2 c2).1 c3), fun c4 => ⟨fun c5 => ih.2.1 _ _ _ g (((hR.2 c2).2 c4).1 c5), fun c6 => ⟨fun c7 => ih.2.1 _ _ _ g ((((hR.2 c2).2 c4).2 c6).1 c7), fun c8 => ⟨fun c9 => ih.2.2.1 _ _ _ g (((((hR.2 c2).2 c4).2 c6).2 c8).1 c9), fun c10 => ih.2.1 _ _ _ g (((((hR.2 c2).2 c4).2 c6).2 c8).2 c10)⟩⟩⟩⟩⟩
      · intro t li lj g hR
        have hR : wbX11_drawn_1 (wpX11_drawn k) k t li lj Q := hR
        show wbX11_drawn_1 (wpX11_drawn k) k t li lj Q'
        exact hQ _ _ hR g
      · intro t li lj g hR
        have hR : wbX11_drawn_2 (wpX11_drawn k) k t li lj Q := hR
        show wbX11_drawn_2 (wpX11_drawn k) k t li lj Q'
        refine ⟨fun c1 t7 e7 => ?_, fun c2 => wiX11_peelByDraws (hR.2 c2) (hR.2 c2) (fun r10 t10 h10 _ v11 e11 => ⟨fun c => ih.2.2.2.1 _ _ _ g ((h10 v11 e11).1 c), fun c => ih.2.2.2.1 _ _ _ g ((h10 v11 e11).2 c)⟩)⟩
        have g7 : t7.1 0 = x := by rw [e7]; exact g
        have h7 := hR.1 c1 t7 e7
        exact ⟨fun c3 => ⟨fun c4 => hQ _ _ ((h7.1 c3).1 c4) g7, fun c4 => hQ _ _ ((h7.1 c3).2 c4) g7⟩, fun c3 => hQ _ _ (h7.2 c3) g7⟩
      · intro t li lj g hR
        have hR : wbX11_drawn_3 (wpX11_drawn k) k t li lj Q := hR
        show wbX11_drawn_3 (wpX11_drawn k) k t li lj Q'
        exact ⟨fun c => ih.2.2.2.2 _ _ _ g (hR.1 c), fun c v e => ih.2.2.2.2 _ _ _ g (hR.2 c v e)⟩
      · intro t li lj g hR
        have hR : wbX11_drawn_4 (wpX11_drawn k) k t li lj Q := hR
        show wbX11_drawn_4 (wpX11_drawn k) k t li lj Q'
        exact fun v e => ih.2.2.1 _ _ _ g (hR v e)
  exact (all k).1 _ _ _ g hR
theorem wxX12_drawnOnce {k : Nat} {t : XT} {Q Q' : Int32 → XT → Prop} (hR : wqX12_drawnOnce k t Q) (hQ : ∀ r t, Q r t → Q' r t) : wqX12_drawnOnce k t Q' := wmX12_drawnOnce (Nat.le_refl k) hQ hR
theorem vyX12_drawn {x : Int32} {k : Nat} {t : XT} {a1 a2 : Int32} {Q Q' : Int32 → XT → Prop} (g : t.1 8 = x) (hR : wqX12_drawn k t a1 a2 Q) (hQ : ∀ r t, Q r t → t.1 8 = x → Q' r t) : wqX12_drawn k t a1 a2 Q' := by
  have all : ∀ k, (∀ (t : XT) (li : Nat → Int32) (lj : Nat → Int64), t.1 8 = x → wpX12_drawn k 0 t li lj Q → wpX12_drawn k 0 t li lj Q') ∧ (∀ (t : XT) (li : Nat → Int32) (lj : Nat → Int64), t.1 8 = x → wpX12_drawn k 1 t li lj Q → wpX12_drawn k 1 t li lj Q') ∧ (∀ (t : XT) (li : Nat → Int32) (lj : Nat → Int64), t.1 8 = x → wpX12_drawn k 2 t li lj Q → wpX12_drawn k 2 t li lj Q') ∧ (∀ (t : XT) (li : Nat → Int32) (lj : Nat → Int64), li 3 = x → wpX12_drawn k 3 t li lj Q → wpX12_drawn k 3 t li lj Q') ∧ (∀ (t : XT) (li : Nat → Int32) (lj : Nat → Int64), li 3 = x → wpX12_drawn k 4 t li lj Q → wpX12_drawn k 4 t li lj Q') ∧ (∀ (t : XT) (li : Nat → Int32) (lj : Nat → Int64), t.1 8 = x → wpX12_drawn k 5 t li lj Q → wpX12_drawn k 5 t li lj Q') := by
    intro k
    induction k with
    | zero => exact ⟨fun _ _ _ _ h => False.elim h, fun _ _ _ _ h => False.elim h, fun _ _ _ _ h => False.elim h, fun _ _ _ _ h => False.elim h, fun _ _ _ _ h => False.elim h, fun _ _ _ _ h => False.elim h⟩
    | succ k ih =>
      refine ⟨?_, ?_, ?_, ?_, ?_, ?_⟩
      · intro t li lj g hR
        have hR : wbX12_drawn_0 (wpX12_drawn k) k t li lj Q := hR
        show wbX12_drawn_0 (wpX12_drawn k) k t li lj Q'
        exact ⟨fun c1 => ih.2.1 _ _ _ g (hR.1 c1), fun c2 => wcX12_in (hR.2 c2) (fun r2 h2 => ⟨fun c3 => ih.2.1 _ _ _ g (h2.1 c3), fun c4 => wcX12_in (h2.2 c4) (fun r4 h4 => ⟨fun c5 => ih.2.2.1 _ _ _ g (h4.1 c5), fun c6 => ih.2.1 _ _ _ g (h4.2 c6)⟩)⟩)⟩
      · intro t li lj g hR
        have hR : wbX12_drawn_1 (wpX12_drawn k) k t li lj Q := hR
        show wbX12_drawn_1 (wpX12_drawn k) k t li lj Q'
        exact hQ _ _ hR g
      · intro t li lj g hR
        have hR : wbX12_drawn_2 (wpX12_drawn k) k t li lj Q := hR
        show wbX12_drawn_2 (wpX12_drawn k) k t li lj Q'
        refine ⟨fun c1 => ih.2.2.2.1 _ _ _ g (hR.1 c1), fun c2 => ⟨(hR.2 c2).1, fun v7 e7 => ⟨((hR.2 c2).2 v7 e7).1, fun t8 e8 v9 e9 => ih.2.2.1 _ _ _ ?_ (((hR.2 c2).2 v7 e7).2 t8 e8 v9 e9)⟩⟩⟩
        rw [e8]; exact g
      · intro t li lj g hR
        have hR : wbX12_drawn_3 (wpX12_drawn k) k t li lj Q := hR
        show wbX12_drawn_3 (wpX12_drawn k) k t li lj Q'
        refine ⟨fun c1 t11 e11 => ih.2.2.2.2.2 _ _ _ (by rw [e11]; exact g) (hR.1 c1 t11 e11), fun c2 => wxX12_drawnOnce (hR.2 c2) (fun r12 t12 h12 => ⟨fun c3 => ⟨fun c4 => ih.2.2.2.2.1 _ _ _ g ((h12.1 c3).1 c4), fun c4 v e => ih.2.2.2.2.1 _ _ _ g ((h12.1 c3).2 c4 v e)⟩, fun c3 => ih.2.2.2.2.1 _ _ _ g (h12.2 c3)⟩)⟩
      · intro t li lj g hR
        have hR : wbX12_drawn_4 (wpX12_drawn k) k t li lj Q := hR
        show wbX12_drawn_4 (wpX12_drawn k) k t li lj Q'
        exact fun v16 e16 v17 e17 v18 e18 => ih.2.2.2.1 _ _ _ g (hR v16 e16 v17 e17 v18 e18)
      · intro t li lj g hR
        have hR : wbX12_drawn_5 (wpX12_drawn k) k t li lj Q := hR
        show wbX12_drawn_5 (wpX12_drawn k) k t li lj Q'
        refine ⟨fun c1 => ⟨fun c2 => ⟨fun c3 => hQ _ _ (((hR.1 c1).1 c2).1 c3) g, fun c3 => hQ _ _ (((hR.1 c1).1 c2).2 c3) g⟩, fun c2 => hQ _ _ ((hR.1 c1).2 c2) g⟩, fun c2 => ⟨(hR.2 c2).1, fun v22 e22 => ⟨((hR.2 c2).2 v22 e22).1, fun t23 e23 v24 e24 => ih.2.2.2.2.2 _ _ _ ?_ (((hR.2 c2).2 v22 e22).2 t23 e23 v24 e24)⟩⟩⟩
        rw [e23]; exact g
  exact (all k).1 _ _ _ g hR
