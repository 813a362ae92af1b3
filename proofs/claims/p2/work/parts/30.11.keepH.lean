set_option maxHeartbeats 4000000 in
set_option maxRecDepth 100000 in
theorem ngX11_pairUpwards {h : Nat} (hh : 300 ≤ h) (Q Q' : XT → Prop) : ∀ (k b : Nat), (∀ (t : XT) (li : Nat → Int32) (lj : Nat → Int64), b + (0 + 4 * k) < 2147483648 → hN b t → (∀ t, Q t → hN (b + (0 + 4 * k)) t → Q' t) → wpX11_pairUpwards k 0 t li lj Q → wpX11_pairUpwards (h + k) 0 t li lj Q') ∧ (∀ (t : XT) (li : Nat → Int32) (lj : Nat → Int64), b + (0 + 4 * k) < 2147483648 → hN b t → (∀ t, Q t → hN (b + (0 + 4 * k)) t → Q' t) → wpX11_pairUpwards k 1 t li lj Q → wpX11_pairUpwards (h + k) 1 t li lj Q') ∧ (∀ (t : XT) (li : Nat → Int32) (lj : Nat → Int64), b + (0 + 4 * k) < 2147483648 → hN b t → (∀ t, Q t → hN (b + (0 + 4 * k)) t → Q' t) → wpX11_pairUpwards k 2 t li lj Q → wpX11_pairUpwards (h + k) 2 t li lj Q') ∧ (∀ (t : XT) (li : Nat → Int32) (lj : Nat → Int64), b + (0 + 4 * k) < 2147483648 → hN b t → (∀ t, Q t → hN (b + (0 + 4 * k)) t → Q' t) → wpX11_pairUpwards k 3 t li lj Q → wpX11_pairUpwards (h + k) 3 t li lj Q') ∧ (∀ (t : XT) (li : Nat → Int32) (lj : Nat → Int64), b + (0 + 4 * k) < 2147483648 → hN b t → (∀ t, Q t → hN (b + (0 + 4 * k)) t → Q' t) → wpX11_pairUpwards k 4 t li lj Q → wpX11_pairUpwards (h + k) 4 t li lj Q') ∧ (∀ (t : XT) (li : Nat → Int32) (lj : Nat → Int64), b + (0 + 4 * k) < 2147483648 → hN b t → (∀ t, Q t → hN (b + (0 + 4 * k)) t → Q' t) → wpX11_pairUpwards k 5 t li lj Q → wpX11_pairUpwards (h + k) 5 t li lj Q') := by
  intro k
  induction k with
  | zero => intro b; exact ⟨fun _ _ _ _ _ _ hR => False.elim hR, fun _ _ _ _ _ _ hR => False.elim hR, fun _ _ _ _ _ _ hR => False.elim hR, fun _ _ _ _ _ _ hR => False.elim hR, fun _ _ _ _ _ _ hR => False.elim hR, fun _ _ _ _ _ _ hR => False.elim hR⟩
  | succ k ih =>
    intro b
    refine ⟨?_, ?_, ?_, ?_, ?_, ?_⟩
    · intro t li lj hb g hQ hR
      have hR : wbX11_pairUpwards_0 (wpX11_pairUpwards k) k t li lj Q := hR
      show wbX11_pairUpwards_0 (wpX11_pairUpwards (h + k)) (h + k) t li lj Q'
      unfold wbX11_pairUpwards_0 at hR ⊢
      exact (ih (b)).2.1 _ _ _ (by omega) g (fun z0 q0 g0 => hQ z0 q0 (hN_mono (by omega) g0)) hR
    · intro t li lj hb g hQ hR
      have hR : wbX11_pairUpwards_1 (wpX11_pairUpwards k) k t li lj Q := hR
      show wbX11_pairUpwards_1 (wpX11_pairUpwards (h + k)) (h + k) t li lj Q'
      unfold wbX11_pairUpwards_1 at hR ⊢
      exact ⟨fun c1 => hQ _ (hR.1 c1) (hN_mono (by omega) g), fun c2 => ndX6_isCritical hh (by omega) g (hR.2 c2) (fun y3_0 y3_1 h3 g3 => ⟨fun c4 => (ih (b)).2.2.1 _ _ _ (by omega) g3 (fun z0 q0 g0 => hQ z0 q0 (hN_mono (by omega) g0)) (h3.1 c4), fun c5 => ⟨(h3.2 c5).1, fun x6 e6 => ndX6_unpaired hh (by omega) g3 ((h3.2 c5).2 x6 e6) (fun y7_0 y7_1 h7 g7 => fun x8 e8 => (ih (b)).2.2.1 _ _ _ (by omega) g7 (fun z0 q0 g0 => hQ z0 q0 (hN_mono (by omega) g0)) (h7 x8 e8))⟩⟩)⟩
    · intro t li lj hb g hQ hR
      have hR : wbX11_pairUpwards_2 (wpX11_pairUpwards k) k t li lj Q := hR
      show wbX11_pairUpwards_2 (wpX11_pairUpwards (h + k)) (h + k) t li lj Q'
      unfold wbX11_pairUpwards_2 at hR ⊢
      exact fun x1 e1 => (ih (b)).2.2.2.1 _ _ _ (by omega) g (fun z0 q0 g0 => hQ z0 q0 (hN_mono (by omega) g0)) (hR x1 e1)
    · intro t li lj hb g hQ hR
      have hR : wbX11_pairUpwards_3 (wpX11_pairUpwards k) k t li lj Q := hR
      show wbX11_pairUpwards_3 (wpX11_pairUpwards (h + k)) (h + k) t li lj Q'
      unfold wbX11_pairUpwards_3 at hR ⊢
      exact ⟨fun c1 => (ih (b)).2.2.2.2.2 _ _ _ (by omega) g (fun z0 q0 g0 => hQ z0 q0 (hN_mono (by omega) g0)) (hR.1 c1), fun c2 => fun x3 e3 => ⟨fun c4 => (ih (b)).2.2.2.2.2 _ _ _ (by omega) g (fun z0 q0 g0 => hQ z0 q0 (hN_mono (by omega) g0)) (((hR.2 c2) x3 e3).1 c4), fun c5 => ndX11_isIn (((hR.2 c2) x3 e3).2 c5) (fun y6_0 h6 => ⟨fun c7 => (ih (b)).2.2.2.2.1 _ _ _ (by omega) g (fun z0 q0 g0 => hQ z0 q0 (hN_mono (by omega) g0)) (h6.1 c7), fun c8 => ndX6_staysAcyclic hh (by omega) g (h6.2 c8) (fun y9_0 y9_1 h9 g9 => ⟨fun c10 => (ih (b)).2.2.2.2.1 _ _ _ (by omega) g9 (fun z0 q0 g0 => hQ z0 q0 (hN_mono (by omega) g0)) (h9.1 c10), fun c11 => ndX6_unite hh (by omega) g9 (h9.2 c11) (fun y12_0 h12 g12 => (ih (b + 1)).2.2.2.2.1 _ _ _ (by omega) g12 (fun z0 q0 g0 => hQ z0 q0 (hN_mono (by omega) g0)) h12)⟩)⟩)⟩⟩
    · intro t li lj hb g hQ hR
      have hR : wbX11_pairUpwards_4 (wpX11_pairUpwards k) k t li lj Q := hR
      show wbX11_pairUpwards_4 (wpX11_pairUpwards (h + k)) (h + k) t li lj Q'
      unfold wbX11_pairUpwards_4 at hR ⊢
      exact fun x1 e1 => (ih (b)).2.2.2.1 _ _ _ (by omega) g (fun z0 q0 g0 => hQ z0 q0 (hN_mono (by omega) g0)) (hR x1 e1)
    · intro t li lj hb g hQ hR
      have hR : wbX11_pairUpwards_5 (wpX11_pairUpwards k) k t li lj Q := hR
      show wbX11_pairUpwards_5 (wpX11_pairUpwards (h + k)) (h + k) t li lj Q'
      unfold wbX11_pairUpwards_5 at hR ⊢
      exact fun x1 e1 => (ih (b)).2.1 _ _ _ (by omega) g (fun z0 q0 g0 => hQ z0 q0 (hN_mono (by omega) g0)) (hR x1 e1)
theorem ndX11_pairUpwards {h b k : Nat} {t : XT}  {Q Q' : XT → Prop} (hh : 300 ≤ h) (hb : b + (0 + 4 * k) < 2147483648) (g : hN b t) (hR : wqX11_pairUpwards k t  Q) (hQ : ∀ t, Q t → hN (b + (0 + 4 * k)) t → Q' t) : wqX11_pairUpwards (h + k) t  Q' := (ngX11_pairUpwards hh Q Q' k b).1 t _ _ hb g hQ hR
set_option maxHeartbeats 4000000 in
set_option maxRecDepth 100000 in
theorem ngX11_auto {h : Nat} (hh : 300 ≤ h) (Q Q' : Int32 → XT → Prop) : ∀ (k b : Nat), (∀ (t : XT) (li : Nat → Int32) (lj : Nat → Int64), b + (1 + 4 * k) < 2147483648 → hN b t → (∀ r t, Q r t → hN (b + (1 + 4 * k)) t → Q' r t) → wpX11_auto k 0 t li lj Q → wpX11_auto (h + k) 0 t li lj Q') ∧ (∀ (t : XT) (li : Nat → Int32) (lj : Nat → Int64), b < 2147483648 → hN b t → (∀ r t, Q r t → hN (b) t → Q' r t) → wpX11_auto k 1 t li lj Q → wpX11_auto (h + k) 1 t li lj Q') ∧ (∀ (t : XT) (li : Nat → Int32) (lj : Nat → Int64), b < 2147483648 → hN b t → (∀ r t, Q r t → hN (b) t → Q' r t) → wpX11_auto k 2 t li lj Q → wpX11_auto (h + k) 2 t li lj Q') := by
  intro k
  induction k with
  | zero => intro b; exact ⟨fun _ _ _ _ _ _ hR => False.elim hR, fun _ _ _ _ _ _ hR => False.elim hR, fun _ _ _ _ _ _ hR => False.elim hR⟩
  | succ k ih =>
    intro b
    refine ⟨?_, ?_, ?_⟩
    · intro t li lj hb g hQ hR
      have hR : wbX11_auto_0 (wpX11_auto k) k t li lj Q := hR
      show wbX11_auto_0 (wpX11_auto (h + k)) (h + k) t li lj Q'
      unfold wbX11_auto_0 at hR ⊢
      exact ⟨fun c1 => (ih (b)).2.1 _ _ _ (by omega) g (fun z0 z1 q0 g0 => hQ z0 z1 q0 (hN_mono (by omega) g0)) (hR.1 c1), fun c2 => ⟨fun c3 => (ih (b)).2.1 _ _ _ (by omega) g (fun z0 z1 q0 g0 => hQ z0 z1 q0 (hN_mono (by omega) g0)) ((hR.2 c2).1 c3), fun c4 => ⟨fun c5 => ndX3_save_c4 hh (by omega) g (((hR.2 c2).2 c4).1 c5) (fun y6_0 h6 g6 => ndX6_restart hh (by omega) g6 h6 (fun y7_0 h7 g7 => ⟨fun c8 => ⟨fun c9 => ndX11_pairByPeeling hh (by omega) g7 ((h7.1 c8).1 c9) (fun y10_0 h10 g10 => (ih (b + 1 + (0 + 4 * k))).2.2 _ _ _ (by omega) g10 (fun z0 z1 q0 g0 => hQ z0 z1 q0 (hN_mono (by omega) g0)) h10), fun c11 => ndX11_pairDownwards hh (by omega) g7 ((h7.1 c8).2 c11) (fun y12_0 h12 g12 => (ih (b + 1 + (0 + 4 * k))).2.2 _ _ _ (by omega) g12 (fun z0 z1 q0 g0 => hQ z0 z1 q0 (hN_mono (by omega) g0)) h12)⟩, fun c13 => ndX11_pairUpwards hh (by omega) g7 (h7.2 c13) (fun y14_0 h14 g14 => (ih (b + 1 + (0 + 4 * k))).2.2 _ _ _ (by omega) g14 (fun z0 z1 q0 g0 => hQ z0 z1 q0 (hN_mono (by omega) g0)) h14)⟩)), fun c15 => (ih (b)).2.1 _ _ _ (by omega) g (fun z0 z1 q0 g0 => hQ z0 z1 q0 (hN_mono (by omega) g0)) (((hR.2 c2).2 c4).2 c15)⟩⟩⟩
    · intro t li lj hb g hQ hR
      have hR : wbX11_auto_1 (wpX11_auto k) k t li lj Q := hR
      show wbX11_auto_1 (wpX11_auto (h + k)) (h + k) t li lj Q'
      unfold wbX11_auto_1 at hR ⊢
      exact hQ _ _ hR (hN_mono (by omega) g)
    · intro t li lj hb g hQ hR
      have hR : wbX11_auto_2 (wpX11_auto k) k t li lj Q := hR
      show wbX11_auto_2 (wpX11_auto (h + k)) (h + k) t li lj Q'
      unfold wbX11_auto_2 at hR ⊢
      exact ndX11_criticalOnes hh (by omega) g hR (fun y1_0 y1_1 h1 g1 => hQ _ _ h1 (hN_mono (by omega) g1))
theorem ndX11_auto {h b k : Nat} {t : XT} {a1 : Int32} {Q Q' : Int32 → XT → Prop} (hh : 300 ≤ h) (hb : b + (1 + 4 * k) < 2147483648) (g : hN b t) (hR : wqX11_auto k t a1 Q) (hQ : ∀ r t, Q r t → hN (b + (1 + 4 * k)) t → Q' r t) : wqX11_auto (h + k) t a1 Q' := (ngX11_auto hh Q Q' k b).1 t _ _ hb g hQ hR
set_option maxHeartbeats 4000000 in
set_option maxRecDepth 100000 in
theorem ngX11_areEnds {h : Nat} (hh : 300 ≤ h) (Q Q' : Int32 → XT → Prop) : ∀ (k b : Nat), (∀ (t : XT) (li : Nat → Int32) (lj : Nat → Int64), b < 2147483648 → hN b t → (∀ r t, Q r t → hN (b) t → Q' r t) → wpX11_areEnds k 0 t li lj Q → wpX11_areEnds (h + k) 0 t li lj Q') ∧ (∀ (t : XT) (li : Nat → Int32) (lj : Nat → Int64), b < 2147483648 → hN b t → (∀ r t, Q r t → hN (b) t → Q' r t) → wpX11_areEnds k 1 t li lj Q → wpX11_areEnds (h + k) 1 t li lj Q') ∧ (∀ (t : XT) (li : Nat → Int32) (lj : Nat → Int64), b < 2147483648 → hN b t → (∀ r t, Q r t → hN (b) t → Q' r t) → wpX11_areEnds k 2 t li lj Q → wpX11_areEnds (h + k) 2 t li lj Q') := by
  intro k
  induction k with
  | zero => intro b; exact ⟨fun _ _ _ _ _ _ hR => False.elim hR, fun _ _ _ _ _ _ hR => False.elim hR, fun _ _ _ _ _ _ hR => False.elim hR⟩
  | succ k ih =>
    intro b
    refine ⟨?_, ?_, ?_⟩
    · intro t li lj hb g hQ hR
      have hR : wbX11_areEnds_0 (wpX11_areEnds k) k t li lj Q := hR
      show wbX11_areEnds_0 (wpX11_areEnds (h + k)) (h + k) t li lj Q'
      unfold wbX11_areEnds_0 at hR ⊢
      exact ndX11_isThere hh (by omega) g hR (fun y1_0 y1_1 h1 g1 => ⟨fun c2 => (ih (b)).2.1 _ _ _ (by omega) g1 (fun z0 z1 q0 g0 => hQ z0 z1 q0 (hN_mono (by omega) g0)) (h1.1 c2), fun c3 => ndX11_isThere hh (by omega) g1 (h1.2 c3) (fun y4_0 y4_1 h4 g4 => ⟨fun c5 => ⟨(h4.1 c5).1, fun x6 e6 => ⟨((h4.1 c5).2 x6 e6).1, fun x7 e7 => fun x8 e8 => ⟨fun c9 => ndX6_isCritical hh (by omega) g4 (((((h4.1 c5).2 x6 e6).2 x7 e7) x8 e8).1 c9) (fun y10_0 y10_1 h10 g10 => ⟨fun c11 => (ih (b)).2.2 _ _ _ (by omega) g10 (fun z0 z1 q0 g0 => hQ z0 z1 q0 (hN_mono (by omega) g0)) (h10.1 c11), fun c12 => ndX6_isCritical hh (by omega) g10 (h10.2 c12) (fun y13_0 y13_1 h13 g13 => ⟨fun c14 => (ih (b)).2.2 _ _ _ (by omega) g13 (fun z0 z1 q0 g0 => hQ z0 z1 q0 (hN_mono (by omega) g0)) (h13.1 c14), fun c15 => hQ _ _ (h13.2 c15) (hN_mono (by omega) g13)⟩)⟩), fun c16 => hQ _ _ (((((h4.1 c5).2 x6 e6).2 x7 e7) x8 e8).2 c16) (hN_mono (by omega) g4)⟩⟩⟩, fun c17 => (ih (b)).2.1 _ _ _ (by omega) g4 (fun z0 z1 q0 g0 => hQ z0 z1 q0 (hN_mono (by omega) g0)) (h4.2 c17)⟩)⟩)
    · intro t li lj hb g hQ hR
      have hR : wbX11_areEnds_1 (wpX11_areEnds k) k t li lj Q := hR
      show wbX11_areEnds_1 (wpX11_areEnds (h + k)) (h + k) t li lj Q'
      unfold wbX11_areEnds_1 at hR ⊢
      exact hQ _ _ hR (hN_mono (by omega) g)
    · intro t li lj hb g hQ hR
      have hR : wbX11_areEnds_2 (wpX11_areEnds k) k t li lj Q := hR
      show wbX11_areEnds_2 (wpX11_areEnds (h + k)) (h + k) t li lj Q'
      unfold wbX11_areEnds_2 at hR ⊢
      exact hQ _ _ hR (hN_mono (by omega) g)
theorem ndX11_areEnds {h b k : Nat} {t : XT} {a1 : Int32} {a2 : Int32} {Q Q' : Int32 → XT → Prop} (hh : 300 ≤ h) (hb : b < 2147483648) (g : hN b t) (hR : wqX11_areEnds k t a1 a2 Q) (hQ : ∀ r t, Q r t → hN (b) t → Q' r t) : wqX11_areEnds (h + k) t a1 a2 Q' := (ngX11_areEnds hh Q Q' k b).1 t _ _ hb g hQ hR
set_option maxHeartbeats 4000000 in
set_option maxRecDepth 100000 in
theorem ngX6_below {h : Nat} (hh : 300 ≤ h) (Q Q' : Int64 → XT → Prop) : ∀ (k b : Nat), (∀ (t : XT) (li : Nat → Int32) (lj : Nat → Int64), b < 2147483648 → hN b t → (∀ r t, Q r t → hN (b) t → Q' r t) → wpX6_below k 0 t li lj Q → wpX6_below (h + k) 0 t li lj Q') := by
  intro k
  induction k with
  | zero => intro b; exact fun _ _ _ _ _ _ hR => False.elim hR
  | succ k ih =>
    intro b
    intro t li lj hb g hQ hR
    have hR : wbX6_below_0 (wpX6_below k) k t li lj Q := hR
    show wbX6_below_0 (wpX6_below (h + k)) (h + k) t li lj Q'
    unfold wbX6_below_0 at hR ⊢
    exact ⟨hR.1, fun x1 e1 => ⟨fun c2 => ⟨((hR.2 x1 e1).1 c2).1, fun x3 e3 => ⟨(((hR.2 x1 e1).1 c2).2 x3 e3).1, fun x4 e4 => fun x5 e5 => fun x6 e6 => fun x7 e7 => hQ _ _ (((((((hR.2 x1 e1).1 c2).2 x3 e3).2 x4 e4) x5 e5) x6 e6) x7 e7) (hN_mono (by omega) g)⟩⟩, fun c8 => ⟨((hR.2 x1 e1).2 c8).1, fun x9 e9 => hQ _ _ (((hR.2 x1 e1).2 c8).2 x9 e9) (hN_mono (by omega) g)⟩⟩⟩
theorem ndX6_below {h b k : Nat} {t : XT} {a1 : Int32} {Q Q' : Int64 → XT → Prop} (hh : 300 ≤ h) (hb : b < 2147483648) (g : hN b t) (hR : wqX6_below k t a1 Q) (hQ : ∀ r t, Q r t → hN (b) t → Q' r t) : wqX6_below (h + k) t a1 Q' := (ngX6_below hh Q Q' k b) t _ _ hb g hQ hR
set_option maxHeartbeats 4000000 in
set_option maxRecDepth 100000 in
theorem ngX1_waysDown {h : Nat} (hh : 300 ≤ h) (Q Q' : Int64 → XT → Prop) : ∀ (k b : Nat), (∀ (t : XT) (li : Nat → Int32) (lj : Nat → Int64), b < 2147483648 → hN b t → (∀ r t, Q r t → hN (b) t → Q' r t) → wpX1_waysDown k 0 t li lj Q → wpX1_waysDown (h + k) 0 t li lj Q') ∧ (∀ (t : XT) (li : Nat → Int32) (lj : Nat → Int64), b < 2147483648 → hN b t → (∀ r t, Q r t → hN (b) t → Q' r t) → wpX1_waysDown k 1 t li lj Q → wpX1_waysDown (h + k) 1 t li lj Q') ∧ (∀ (t : XT) (li : Nat → Int32) (lj : Nat → Int64), b < 2147483648 → hN b t → (∀ r t, Q r t → hN (b) t → Q' r t) → wpX1_waysDown k 2 t li lj Q → wpX1_waysDown (h + k) 2 t li lj Q') := by
  intro k
  induction k with
  | zero => intro b; exact ⟨fun _ _ _ _ _ _ hR => False.elim hR, fun _ _ _ _ _ _ hR => False.elim hR, fun _ _ _ _ _ _ hR => False.elim hR⟩
  | succ k ih =>
    intro b
    refine ⟨?_, ?_, ?_⟩
    · intro t li lj hb g hQ hR
      have hR : wbX1_waysDown_0 (wpX1_waysDown k) k t li lj Q := hR
      show wbX1_waysDown_0 (wpX1_waysDown (h + k)) (h + k) t li lj Q'
      unfold wbX1_waysDown_0 at hR ⊢
      exact ndX6_below hh (by omega) g hR (fun y1_0 y1_1 h1 g1 => (ih (b)).2.1 _ _ _ (by omega) g1 (fun z0 z1 q0 g0 => hQ z0 z1 q0 (hN_mono (by omega) g0)) h1)
    · intro t li lj hb g hQ hR
      have hR : wbX1_waysDown_1 (wpX1_waysDown k) k t li lj Q := hR
      show wbX1_waysDown_1 (wpX1_waysDown (h + k)) (h + k) t li lj Q'
      unfold wbX1_waysDown_1 at hR ⊢
      exact ⟨fun c1 => (ih (b)).2.2 _ _ _ (by omega) g (fun z0 z1 q0 g0 => hQ z0 z1 q0 (hN_mono (by omega) g0)) (hR.1 c1), fun c2 => fun x3 e3 => ⟨fun c4 => (ih (b)).2.2 _ _ _ (by omega) g (fun z0 z1 q0 g0 => hQ z0 z1 q0 (hN_mono (by omega) g0)) (((hR.2 c2) x3 e3).1 c4), fun c5 => ndX11_lowest (((hR.2 c2) x3 e3).2 c5) (fun y6_0 h6 => ⟨h6.1, fun x7 e7 => fun x8 e8 => fun x9 e9 => fun x10 e10 => fun x11 e11 => (ih (b)).2.1 _ _ _ (by omega) g (fun z0 z1 q0 g0 => hQ z0 z1 q0 (hN_mono (by omega) g0)) (((((h6.2 x7 e7) x8 e8) x9 e9) x10 e10) x11 e11)⟩)⟩⟩
    · intro t li lj hb g hQ hR
      have hR : wbX1_waysDown_2 (wpX1_waysDown k) k t li lj Q := hR
      show wbX1_waysDown_2 (wpX1_waysDown (h + k)) (h + k) t li lj Q'
      unfold wbX1_waysDown_2 at hR ⊢
      exact hQ _ _ hR (hN_mono (by omega) g)
theorem ndX1_waysDown {h b k : Nat} {t : XT} {a1 : Int32} {Q Q' : Int64 → XT → Prop} (hh : 300 ≤ h) (hb : b < 2147483648) (g : hN b t) (hR : wqX1_waysDown k t a1 Q) (hQ : ∀ r t, Q r t → hN (b) t → Q' r t) : wqX1_waysDown (h + k) t a1 Q' := (ngX1_waysDown hh Q Q' k b).1 t _ _ hb g hQ hR
set_option maxHeartbeats 4000000 in
set_option maxRecDepth 100000 in
theorem ngX1_countWays {h : Nat} (hh : 300 ≤ h) (Q Q' : Int64 → XT → Prop) : ∀ (k b : Nat), (∀ (t : XT) (li : Nat → Int32) (lj : Nat → Int64), b < 2147483648 → hN b t → (∀ r t, Q r t → hN (b) t → Q' r t) → wpX1_countWays k 0 t li lj Q → wpX1_countWays (h + k) 0 t li lj Q') ∧ (∀ (t : XT) (li : Nat → Int32) (lj : Nat → Int64), b < 2147483648 → hN b t → (∀ r t, Q r t → hN (b) t → Q' r t) → wpX1_countWays k 1 t li lj Q → wpX1_countWays (h + k) 1 t li lj Q') ∧ (∀ (t : XT) (li : Nat → Int32) (lj : Nat → Int64), b < 2147483648 → hN b t → (∀ r t, Q r t → hN (b) t → Q' r t) → wpX1_countWays k 2 t li lj Q → wpX1_countWays (h + k) 2 t li lj Q') := by
  intro k
  induction k with
  | zero => intro b; exact ⟨fun _ _ _ _ _ _ hR => False.elim hR, fun _ _ _ _ _ _ hR => False.elim hR, fun _ _ _ _ _ _ hR => False.elim hR⟩
  | succ k ih =>
    intro b
    refine ⟨?_, ?_, ?_⟩
    · intro t li lj hb g hQ hR
      have hR : wbX1_countWays_0 (wpX1_countWays k) k t li lj Q := hR
      show wbX1_countWays_0 (wpX1_countWays (h + k)) (h + k) t li lj Q'
      unfold wbX1_countWays_0 at hR ⊢
      exact ndX2_measure hh (by omega) g hR (fun y1_0 h1 g1 => fun x2 e2 => have g2 : hN (b) x2 := (by rw [e2]; exact hN_B (by decide) g1); (ih (b)).2.1 _ _ _ (by omega) g2 (fun z0 z1 q0 g0 => hQ z0 z1 q0 (hN_mono (by omega) g0)) (h1 x2 e2))
    · intro t li lj hb g hQ hR
      have hR : wbX1_countWays_1 (wpX1_countWays k) k t li lj Q := hR
      show wbX1_countWays_1 (wpX1_countWays (h + k)) (h + k) t li lj Q'
      unfold wbX1_countWays_1 at hR ⊢
      exact ⟨fun c1 => ⟨(hR.1 c1).1, fun x2 e2 => hQ _ _ ((hR.1 c1).2 x2 e2) (hN_mono (by omega) g)⟩, fun c3 => ⟨(hR.2 c3).1, fun x4 e4 => ⟨fun c5 => ⟨(((hR.2 c3).2 x4 e4).1 c5).1, fun x6 e6 => ⟨((((hR.2 c3).2 x4 e4).1 c5).2 x6 e6).1, fun x7 e7 => ⟨fun c8 => ⟨((((((hR.2 c3).2 x4 e4).1 c5).2 x6 e6).2 x7 e7).1 c8).1, fun x9 e9 => ⟨(((((((hR.2 c3).2 x4 e4).1 c5).2 x6 e6).2 x7 e7).1 c8).2 x9 e9).1, fun x10 e10 => ⟨fun c11 => (ih (b)).2.2 _ _ _ (by omega) g (fun z0 z1 q0 g0 => hQ z0 z1 q0 (hN_mono (by omega) g0)) (((((((((hR.2 c3).2 x4 e4).1 c5).2 x6 e6).2 x7 e7).1 c8).2 x9 e9).2 x10 e10).1 c11), fun c12 => ⟨(((((((((hR.2 c3).2 x4 e4).1 c5).2 x6 e6).2 x7 e7).1 c8).2 x9 e9).2 x10 e10).2 c12).1, fun x13 e13 => ⟨fun c14 => (ih (b)).2.2 _ _ _ (by omega) g (fun z0 z1 q0 g0 => hQ z0 z1 q0 (hN_mono (by omega) g0)) (((((((((((hR.2 c3).2 x4 e4).1 c5).2 x6 e6).2 x7 e7).1 c8).2 x9 e9).2 x10 e10).2 c12).2 x13 e13).1 c14), fun c15 => ⟨(((((((((((hR.2 c3).2 x4 e4).1 c5).2 x6 e6).2 x7 e7).1 c8).2 x9 e9).2 x10 e10).2 c12).2 x13 e13).2 c15).1, fun x16 e16 => ⟨((((((((((((hR.2 c3).2 x4 e4).1 c5).2 x6 e6).2 x7 e7).1 c8).2 x9 e9).2 x10 e10).2 c12).2 x13 e13).2 c15).2 x16 e16).1, fun x17 e17 => ⟨(((((((((((((hR.2 c3).2 x4 e4).1 c5).2 x6 e6).2 x7 e7).1 c8).2 x9 e9).2 x10 e10).2 c12).2 x13 e13).2 c15).2 x16 e16).2 x17 e17).1, fun x18 e18 => have g18 : hN (b) x18 := (by rw [e18]; exact hN_B (by decide) g); (ih (b)).2.2 _ _ _ (by omega) g18 (fun z0 z1 q0 g0 => hQ z0 z1 q0 (hN_mono (by omega) g0)) ((((((((((((((hR.2 c3).2 x4 e4).1 c5).2 x6 e6).2 x7 e7).1 c8).2 x9 e9).2 x10 e10).2 c12).2 x13 e13).2 c15).2 x16 e16).2 x17 e17).2 x18 e18)⟩⟩⟩⟩⟩⟩⟩⟩, fun c19 => ndX1_waysDown hh (by omega) g ((((((hR.2 c3).2 x4 e4).1 c5).2 x6 e6).2 x7 e7).2 c19) (fun y20_0 y20_1 h20 g20 => ⟨h20.1, fun x21 e21 => have g21 : hN (b) x21 := (by rw [e21]; exact hN_B (by decide) g20); (ih (b)).2.2 _ _ _ (by omega) g21 (fun z0 z1 q0 g0 => hQ z0 z1 q0 (hN_mono (by omega) g0)) (h20.2 x21 e21)⟩)⟩⟩⟩, fun c22 => ⟨(((hR.2 c3).2 x4 e4).2 c22).1, fun x23 e23 => have g23 : hN (b) x23 := (by rw [e23]; exact hN_B (by decide) g); (ih (b)).2.2 _ _ _ (by omega) g23 (fun z0 z1 q0 g0 => hQ z0 z1 q0 (hN_mono (by omega) g0)) ((((hR.2 c3).2 x4 e4).2 c22).2 x23 e23)⟩⟩⟩⟩
    · intro t li lj hb g hQ hR
      have hR : wbX1_countWays_2 (wpX1_countWays k) k t li lj Q := hR
      show wbX1_countWays_2 (wpX1_countWays (h + k)) (h + k) t li lj Q'
      unfold wbX1_countWays_2 at hR ⊢
      exact fun x1 e1 => (ih (b)).2.1 _ _ _ (by omega) g (fun z0 z1 q0 g0 => hQ z0 z1 q0 (hN_mono (by omega) g0)) (hR x1 e1)
theorem ndX1_countWays {h b k : Nat} {t : XT} {a1 : Int32} {a2 : Int32} {Q Q' : Int64 → XT → Prop} (hh : 300 ≤ h) (hb : b < 2147483648) (g : hN b t) (hR : wqX1_countWays k t a1 a2 Q) (hQ : ∀ r t, Q r t → hN (b) t → Q' r t) : wqX1_countWays (h + k) t a1 a2 Q' := (ngX1_countWays hh Q Q' k b).1 t _ _ hb g hQ hR
set_option maxHeartbeats 4000000 in
set_option maxRecDepth 100000 in
theorem ngX1_chosenFace {h : Nat} (hh : 300 ≤ h) (Q Q' : Int32 → XT → Prop) : ∀ (k b : Nat), (∀ (t : XT) (li : Nat → Int32) (lj : Nat → Int64), b < 2147483648 → hN b t → (∀ r t, Q r t → hN (b) t → Q' r t) → wpX1_chosenFace k 0 t li lj Q → wpX1_chosenFace (h + k) 0 t li lj Q') ∧ (∀ (t : XT) (li : Nat → Int32) (lj : Nat → Int64), b < 2147483648 → hN b t → (∀ r t, Q r t → hN (b) t → Q' r t) → wpX1_chosenFace k 1 t li lj Q → wpX1_chosenFace (h + k) 1 t li lj Q') ∧ (∀ (t : XT) (li : Nat → Int32) (lj : Nat → Int64), b < 2147483648 → hN b t → (∀ r t, Q r t → hN (b) t → Q' r t) → wpX1_chosenFace k 2 t li lj Q → wpX1_chosenFace (h + k) 2 t li lj Q') := by
  intro k
  induction k with
  | zero => intro b; exact ⟨fun _ _ _ _ _ _ hR => False.elim hR, fun _ _ _ _ _ _ hR => False.elim hR, fun _ _ _ _ _ _ hR => False.elim hR⟩
  | succ k ih =>
    intro b
    refine ⟨?_, ?_, ?_⟩
    · intro t li lj hb g hQ hR
      have hR : wbX1_chosenFace_0 (wpX1_chosenFace k) k t li lj Q := hR
      show wbX1_chosenFace_0 (wpX1_chosenFace (h + k)) (h + k) t li lj Q'
      unfold wbX1_chosenFace_0 at hR ⊢
      exact ndX6_below hh (by omega) g hR (fun y1_0 y1_1 h1 g1 => ndX11_lowest h1 (fun y2_0 h2 => (ih (b)).2.1 _ _ _ (by omega) g1 (fun z0 z1 q0 g0 => hQ z0 z1 q0 (hN_mono (by omega) g0)) h2))
    · intro t li lj hb g hQ hR
      have hR : wbX1_chosenFace_1 (wpX1_chosenFace k) k t li lj Q := hR
      show wbX1_chosenFace_1 (wpX1_chosenFace (h + k)) (h + k) t li lj Q'
      unfold wbX1_chosenFace_1 at hR ⊢
      exact ⟨fun c1 => (ih (b)).2.2 _ _ _ (by omega) g (fun z0 z1 q0 g0 => hQ z0 z1 q0 (hN_mono (by omega) g0)) (hR.1 c1), fun c2 => fun x3 e3 => ⟨fun c4 => (ih (b)).2.2 _ _ _ (by omega) g (fun z0 z1 q0 g0 => hQ z0 z1 q0 (hN_mono (by omega) g0)) (((hR.2 c2) x3 e3).1 c4), fun c5 => ndX11_lowest (((hR.2 c2) x3 e3).2 c5) (fun y6_0 h6 => ⟨h6.1, fun x7 e7 => fun x8 e8 => ⟨fun c9 => ⟨(((h6.2 x7 e7) x8 e8).1 c9).1, fun x10 e10 => fun x11 e11 => fun x12 e12 => have g12 : hN (b) x12 := (by rw [e12]; exact hN_J (by decide) (by decide) (by decide) g); fun x13 e13 => fun x14 e14 => fun x15 e15 => (ih (b)).2.1 _ _ _ (by omega) g12 (fun z0 z1 q0 g0 => hQ z0 z1 q0 (hN_mono (by omega) g0)) (((((((((h6.2 x7 e7) x8 e8).1 c9).2 x10 e10) x11 e11) x12 e12) x13 e13) x14 e14) x15 e15)⟩, fun c16 => hQ _ _ (((h6.2 x7 e7) x8 e8).2 c16) (hN_mono (by omega) g)⟩⟩)⟩⟩
    · intro t li lj hb g hQ hR
      have hR : wbX1_chosenFace_2 (wpX1_chosenFace k) k t li lj Q := hR
      show wbX1_chosenFace_2 (wpX1_chosenFace (h + k)) (h + k) t li lj Q'
      unfold wbX1_chosenFace_2 at hR ⊢
      exact hQ _ _ hR (hN_mono (by omega) g)
theorem ndX1_chosenFace {h b k : Nat} {t : XT} {a1 : Int32} {Q Q' : Int32 → XT → Prop} (hh : 300 ≤ h) (hb : b < 2147483648) (g : hN b t) (hR : wqX1_chosenFace k t a1 Q) (hQ : ∀ r t, Q r t → hN (b) t → Q' r t) : wqX1_chosenFace (h + k) t a1 Q' := (ngX1_chosenFace hh Q Q' k b).1 t _ _ hb g hQ hR
set_option maxHeartbeats 4000000 in
set_option maxRecDepth 100000 in
theorem ngX1_trace {h : Nat} (hh : 300 ≤ h) (Q Q' : Int32 → XT → Prop) : ∀ (k b : Nat), (∀ (t : XT) (li : Nat → Int32) (lj : Nat → Int64), b < 2147483648 → hN b t → (∀ r t, Q r t → hN (b) t → Q' r t) → wpX1_trace k 0 t li lj Q → wpX1_trace (h + k) 0 t li lj Q') ∧ (∀ (t : XT) (li : Nat → Int32) (lj : Nat → Int64), b < 2147483648 → hN b t → (∀ r t, Q r t → hN (b) t → Q' r t) → wpX1_trace k 1 t li lj Q → wpX1_trace (h + k) 1 t li lj Q') ∧ (∀ (t : XT) (li : Nat → Int32) (lj : Nat → Int64), b < 2147483648 → hN b t → (∀ r t, Q r t → hN (b) t → Q' r t) → wpX1_trace k 2 t li lj Q → wpX1_trace (h + k) 2 t li lj Q') ∧ (∀ (t : XT) (li : Nat → Int32) (lj : Nat → Int64), b < 2147483648 → hN b t → (∀ r t, Q r t → hN (b) t → Q' r t) → wpX1_trace k 3 t li lj Q → wpX1_trace (h + k) 3 t li lj Q') := by
  intro k
  induction k with
  | zero => intro b; exact ⟨fun _ _ _ _ _ _ hR => False.elim hR, fun _ _ _ _ _ _ hR => False.elim hR, fun _ _ _ _ _ _ hR => False.elim hR, fun _ _ _ _ _ _ hR => False.elim hR⟩
  | succ k ih =>
    intro b
    refine ⟨?_, ?_, ?_, ?_⟩
    · intro t li lj hb g hQ hR
      have hR : wbX1_trace_0 (wpX1_trace k) k t li lj Q := hR
      show wbX1_trace_0 (wpX1_trace (h + k)) (h + k) t li lj Q'
      unfold wbX1_trace_0 at hR ⊢
      exact fun x1 e1 => have g1 : hN (b) x1 := (by rw [e1]; exact hN_J (by decide) (by decide) (by decide) g); ⟨(hR x1 e1).1, fun x2 e2 => have g2 : hN (b) x2 := (by rw [e2]; exact hN_A (by decide) (by decide) (by decide) g1); (ih (b)).2.1 _ _ _ (by omega) g2 (fun z0 z1 q0 g0 => hQ z0 z1 q0 (hN_mono (by omega) g0)) ((hR x1 e1).2 x2 e2)⟩
    · intro t li lj hb g hQ hR
      have hR : wbX1_trace_1 (wpX1_trace k) k t li lj Q := hR
      show wbX1_trace_1 (wpX1_trace (h + k)) (h + k) t li lj Q'
      unfold wbX1_trace_1 at hR ⊢
      exact ⟨fun c1 => (ih (b)).2.2.2 _ _ _ (by omega) g (fun z0 z1 q0 g0 => hQ z0 z1 q0 (hN_mono (by omega) g0)) (hR.1 c1), fun c2 => fun x3 e3 => ⟨fun c4 => (ih (b)).2.2.2 _ _ _ (by omega) g (fun z0 z1 q0 g0 => hQ z0 z1 q0 (hN_mono (by omega) g0)) (((hR.2 c2) x3 e3).1 c4), fun c5 => ndX1_chosenFace hh (by omega) g (((hR.2 c2) x3 e3).2 c5) (fun y6_0 y6_1 h6 g6 => ⟨h6.1, fun x7 e7 => have g7 : hN (b) x7 := (by rw [e7]; exact hN_A (by decide) (by decide) (by decide) g6); fun x8 e8 => ⟨fun c9 => (ih (b)).2.2.1 _ _ _ (by omega) g7 (fun z0 z1 q0 g0 => hQ z0 z1 q0 (hN_mono (by omega) g0)) (((h6.2 x7 e7) x8 e8).1 c9), fun c10 => ⟨(((h6.2 x7 e7) x8 e8).2 c10).1, fun x11 e11 => ⟨fun c12 => (ih (b)).2.2.1 _ _ _ (by omega) g7 (fun z0 z1 q0 g0 => hQ z0 z1 q0 (hN_mono (by omega) g0)) (((((h6.2 x7 e7) x8 e8).2 c10).2 x11 e11).1 c12), fun c13 => ⟨(((((h6.2 x7 e7) x8 e8).2 c10).2 x11 e11).2 c13).1, fun x14 e14 => ⟨((((((h6.2 x7 e7) x8 e8).2 c10).2 x11 e11).2 c13).2 x14 e14).1, fun x15 e15 => have g15 : hN (b) x15 := (by rw [e15]; exact hN_A (by decide) (by decide) (by decide) g7); fun x16 e16 => (ih (b)).2.2.1 _ _ _ (by omega) g15 (fun z0 z1 q0 g0 => hQ z0 z1 q0 (hN_mono (by omega) g0)) ((((((((h6.2 x7 e7) x8 e8).2 c10).2 x11 e11).2 c13).2 x14 e14).2 x15 e15) x16 e16)⟩⟩⟩⟩⟩⟩)⟩⟩
    · intro t li lj hb g hQ hR
      have hR : wbX1_trace_2 (wpX1_trace k) k t li lj Q := hR
      show wbX1_trace_2 (wpX1_trace (h + k)) (h + k) t li lj Q'
      unfold wbX1_trace_2 at hR ⊢
      exact (ih (b)).2.1 _ _ _ (by omega) g (fun z0 z1 q0 g0 => hQ z0 z1 q0 (hN_mono (by omega) g0)) hR
    · intro t li lj hb g hQ hR
      have hR : wbX1_trace_3 (wpX1_trace k) k t li lj Q := hR
      show wbX1_trace_3 (wpX1_trace (h + k)) (h + k) t li lj Q'
      unfold wbX1_trace_3 at hR ⊢
      exact hQ _ _ hR (hN_mono (by omega) g)
theorem ndX1_trace {h b k : Nat} {t : XT} {a1 : Int32} {a2 : Int32} {a3 : Int64} {Q Q' : Int32 → XT → Prop} (hh : 300 ≤ h) (hb : b < 2147483648) (g : hN b t) (hR : wqX1_trace k t a1 a2 a3 Q) (hQ : ∀ r t, Q r t → hN (b) t → Q' r t) : wqX1_trace (h + k) t a1 a2 a3 Q' := (ngX1_trace hh Q Q' k b).1 t _ _ hb g hQ hR
set_option maxHeartbeats 4000000 in
set_option maxRecDepth 100000 in
theorem ngX11_cancel {h : Nat} (hh : 300 ≤ h) (Q Q' : Int32 → XT → Prop) : ∀ (k b : Nat), (∀ (t : XT) (li : Nat → Int32) (lj : Nat → Int64), b + (0 + 4 * k) < 2147483648 → hN b t → (∀ r t, Q r t → hN (b + (0 + 4 * k)) t → Q' r t) → wpX11_cancel k 0 t li lj Q → wpX11_cancel (h + k) 0 t li lj Q') ∧ (∀ (t : XT) (li : Nat → Int32) (lj : Nat → Int64), b + (0 + 4 * k) < 2147483648 → hN b t → (∀ r t, Q r t → hN (b + (0 + 4 * k)) t → Q' r t) → wpX11_cancel k 1 t li lj Q → wpX11_cancel (h + k) 1 t li lj Q') ∧ (∀ (t : XT) (li : Nat → Int32) (lj : Nat → Int64), b + (0 + 4 * k) < 2147483648 → hN b t → (∀ r t, Q r t → hN (b + (0 + 4 * k)) t → Q' r t) → wpX11_cancel k 2 t li lj Q → wpX11_cancel (h + k) 2 t li lj Q') := by
  intro k
  induction k with
  | zero => intro b; exact ⟨fun _ _ _ _ _ _ hR => False.elim hR, fun _ _ _ _ _ _ hR => False.elim hR, fun _ _ _ _ _ _ hR => False.elim hR⟩
  | succ k ih =>
    intro b
    refine ⟨?_, ?_, ?_⟩
    · intro t li lj hb g hQ hR
      have hR : wbX11_cancel_0 (wpX11_cancel k) k t li lj Q := hR
      show wbX11_cancel_0 (wpX11_cancel (h + k)) (h + k) t li lj Q'
      unfold wbX11_cancel_0 at hR ⊢
      exact ndX11_areEnds hh (by omega) g hR (fun y1_0 y1_1 h1 g1 => ⟨fun c2 => ndX1_countWays hh (by omega) g1 (h1.1 c2) (fun y3_0 y3_1 h3 g3 => fun x4 e4 => ⟨fun c5 => ndX3_save_c4 hh (by omega) g3 ((h3 x4 e4).1 c5) (fun y6_0 h6 g6 => ndX1_trace hh (by omega) g6 h6 (fun y7_0 y7_1 h7 g7 => (ih (b)).2.1 _ _ _ (by omega) g7 (fun z0 z1 q0 g0 => hQ z0 z1 q0 (hN_mono (by omega) g0)) h7)), fun c8 => hQ _ _ ((h3 x4 e4).2 c8) (hN_mono (by omega) g3)⟩), fun c9 => hQ _ _ (h1.2 c9) (hN_mono (by omega) g1)⟩)
    · intro t li lj hb g hQ hR
      have hR : wbX11_cancel_1 (wpX11_cancel k) k t li lj Q := hR
      show wbX11_cancel_1 (wpX11_cancel (h + k)) (h + k) t li lj Q'
      unfold wbX11_cancel_1 at hR ⊢
      exact fun x1 e1 => ⟨fun c2 => (ih (b)).2.2 _ _ _ (by omega) g (fun z0 z1 q0 g0 => hQ z0 z1 q0 (hN_mono (by omega) g0)) ((hR x1 e1).1 c2), fun c3 => ⟨((hR x1 e1).2 c3).1, fun x4 e4 => ndX6_divide hh (by omega) g (((hR x1 e1).2 c3).2 x4 e4) (fun y5_0 h5 g5 => fun x6 e6 => (ih (b + 1)).2.1 _ _ _ (by omega) g5 (fun z0 z1 q0 g0 => hQ z0 z1 q0 (hN_mono (by omega) g0)) (h5 x6 e6))⟩⟩
    · intro t li lj hb g hQ hR
      have hR : wbX11_cancel_2 (wpX11_cancel k) k t li lj Q := hR
      show wbX11_cancel_2 (wpX11_cancel (h + k)) (h + k) t li lj Q'
      unfold wbX11_cancel_2 at hR ⊢
      exact ⟨fun c1 => ndX11_criticalOnes hh (by omega) g (hR.1 c1) (fun y2_0 y2_1 h2 g2 => hQ _ _ h2 (hN_mono (by omega) g2)), fun c3 => ⟨(hR.2 c3).1, fun x4 e4 => fun x5 e5 => ⟨(((hR.2 c3).2 x4 e4) x5 e5).1, fun x6 e6 => ndX6_unite hh (by omega) g ((((hR.2 c3).2 x4 e4) x5 e5).2 x6 e6) (fun y7_0 h7 g7 => fun x8 e8 => (ih (b + 1)).2.2 _ _ _ (by omega) g7 (fun z0 z1 q0 g0 => hQ z0 z1 q0 (hN_mono (by omega) g0)) (h7 x8 e8))⟩⟩⟩
theorem ndX11_cancel {h b k : Nat} {t : XT} {a1 : Int32} {a2 : Int32} {Q Q' : Int32 → XT → Prop} (hh : 300 ≤ h) (hb : b + (0 + 4 * k) < 2147483648) (g : hN b t) (hR : wqX11_cancel k t a1 a2 Q) (hQ : ∀ r t, Q r t → hN (b + (0 + 4 * k)) t → Q' r t) : wqX11_cancel (h + k) t a1 a2 Q' := (ngX11_cancel hh Q Q' k b).1 t _ _ hb g hQ hR
set_option maxHeartbeats 4000000 in
set_option maxRecDepth 100000 in
theorem ngX11_isFree {h : Nat} (hh : 300 ≤ h) (Q Q' : Int32 → XT → Prop) : ∀ (k b : Nat), (∀ (t : XT) (li : Nat → Int32) (lj : Nat → Int64), b < 2147483648 → hN b t → (∀ r t, Q r t → hN (b) t → Q' r t) → wpX11_isFree k 0 t li lj Q → wpX11_isFree (h + k) 0 t li lj Q') := by
  intro k
  induction k with
  | zero => intro b; exact fun _ _ _ _ _ _ hR => False.elim hR
  | succ k ih =>
    intro b
    intro t li lj hb g hQ hR
    have hR : wbX11_isFree_0 (wpX11_isFree k) k t li lj Q := hR
    show wbX11_isFree_0 (wpX11_isFree (h + k)) (h + k) t li lj Q'
    unfold wbX11_isFree_0 at hR ⊢
    exact ⟨hR.1, fun x1 e1 => fun x2 e2 => ndJ13_bitCount_95d88 ((hR.2 x1 e1) x2 e2) (fun y3_0 h3 => ⟨fun c4 => ndX11_lowest (h3.1 c4) (fun y5_0 h5 => ⟨h5.1, fun x6 e6 => fun x7 e7 => fun x8 e8 => ⟨fun c9 => hQ _ _ ((((h5.2 x6 e6) x7 e7) x8 e8).1 c9) (hN_mono (by omega) g), fun c10 => hQ _ _ ((((h5.2 x6 e6) x7 e7) x8 e8).2 c10) (hN_mono (by omega) g)⟩⟩), fun c11 => hQ _ _ (h3.2 c11) (hN_mono (by omega) g)⟩)⟩
theorem ndX11_isFree {h b k : Nat} {t : XT} {a1 : Int32} {Q Q' : Int32 → XT → Prop} (hh : 300 ≤ h) (hb : b < 2147483648) (g : hN b t) (hR : wqX11_isFree k t a1 Q) (hQ : ∀ r t, Q r t → hN (b) t → Q' r t) : wqX11_isFree (h + k) t a1 Q' := (ngX11_isFree hh Q Q' k b) t _ _ hb g hQ hR
set_option maxHeartbeats 4000000 in
set_option maxRecDepth 100000 in
theorem ngX11_collapse {h : Nat} (hh : 300 ≤ h) (Q Q' : Int32 → XT → Prop) : ∀ (k b : Nat), (∀ (t : XT) (li : Nat → Int32) (lj : Nat → Int64), b + 4 < 2147483648 → hN b t → (∀ r t, Q r t → hN (b + 4) t → Q' r t) → wpX11_collapse k 0 t li lj Q → wpX11_collapse (h + k) 0 t li lj Q') := by
  intro k
  induction k with
  | zero => intro b; exact fun _ _ _ _ _ _ hR => False.elim hR
  | succ k ih =>
    intro b
    intro t li lj hb g hQ hR
    have hR : wbX11_collapse_0 (wpX11_collapse k) k t li lj Q := hR
    show wbX11_collapse_0 (wpX11_collapse (h + k)) (h + k) t li lj Q'
    unfold wbX11_collapse_0 at hR ⊢
    exact ndX11_isThere hh (by omega) g hR (fun y1_0 y1_1 h1 g1 => ⟨fun c2 => ndX11_isFree hh (by omega) g1 (h1.1 c2) (fun y3_0 y3_1 h3 g3 => ⟨fun c4 => ndX3_save_c4 hh (by omega) g3 (h3.1 c4) (fun y5_0 h5 g5 => ⟨h5.1, fun x6 e6 => fun x7 e7 => ndX11_lowest ((h5.2 x6 e6) x7 e7) (fun y8_0 h8 => ndX6_drop hh (by omega) g5 h8 (fun y9_0 h9 g9 => ndX6_drop hh (by omega) g9 h9 (fun y10_0 h10 g10 => ndJ13_bitCount_95d88 h10 (fun y11_0 h11 => hQ _ _ h11 (hN_mono (by omega) g10)))))⟩), fun c12 => hQ _ _ (h3.2 c12) (hN_mono (by omega) g3)⟩), fun c13 => hQ _ _ (h1.2 c13) (hN_mono (by omega) g1)⟩)
theorem ndX11_collapse {h b k : Nat} {t : XT} {a1 : Int32} {Q Q' : Int32 → XT → Prop} (hh : 300 ≤ h) (hb : b + 4 < 2147483648) (g : hN b t) (hR : wqX11_collapse k t a1 Q) (hQ : ∀ r t, Q r t → hN (b + 4) t → Q' r t) : wqX11_collapse (h + k) t a1 Q' := (ngX11_collapse hh Q Q' k b) t _ _ hb g hQ hR
set_option maxHeartbeats 4000000 in
set_option maxRecDepth 100000 in
theorem ngX6_takeBack_c27 {h : Nat} (hh : 300 ≤ h) (Q Q' : XT → Prop) : ∀ (k b : Nat), (∀ (t : XT) (li : Nat → Int32) (lj : Nat → Int64), b + (0 + 4 * k) < 2147483648 → hN b t → (∀ t, Q t → hN (b + (0 + 4 * k)) t → Q' t) → wpX6_takeBack_c27 k 0 t li lj Q → wpX6_takeBack_c27 (h + k) 0 t li lj Q') ∧ (∀ (t : XT) (li : Nat → Int32) (lj : Nat → Int64), b + (0 + 4 * k) < 2147483648 → hN b t → (∀ t, Q t → hN (b + (0 + 4 * k)) t → Q' t) → wpX6_takeBack_c27 k 1 t li lj Q → wpX6_takeBack_c27 (h + k) 1 t li lj Q') ∧ (∀ (t : XT) (li : Nat → Int32) (lj : Nat → Int64), b + (0 + 4 * k) < 2147483648 → hN b t → (∀ t, Q t → hN (b + (0 + 4 * k)) t → Q' t) → wpX6_takeBack_c27 k 2 t li lj Q → wpX6_takeBack_c27 (h + k) 2 t li lj Q') := by
  intro k
  induction k with
  | zero => intro b; exact ⟨fun _ _ _ _ _ _ hR => False.elim hR, fun _ _ _ _ _ _ hR => False.elim hR, fun _ _ _ _ _ _ hR => False.elim hR⟩
  | succ k ih =>
    intro b
    refine ⟨?_, ?_, ?_⟩
    · intro t li lj hb g hQ hR
      have hR : wbX6_takeBack_c27_0 (wpX6_takeBack_c27 k) k t li lj Q := hR
      show wbX6_takeBack_c27_0 (wpX6_takeBack_c27 (h + k)) (h + k) t li lj Q'
      unfold wbX6_takeBack_c27_0 at hR ⊢
      exact ndX6_restart hh (by omega) g hR (fun y1_0 h1 g1 => (ih (b + 1)).2.1 _ _ _ (by omega) g1 (fun z0 q0 g0 => hQ z0 q0 (hN_mono (by omega) g0)) h1)
    · intro t li lj hb g hQ hR
      have hR : wbX6_takeBack_c27_1 (wpX6_takeBack_c27 k) k t li lj Q := hR
      show wbX6_takeBack_c27_1 (wpX6_takeBack_c27 (h + k)) (h + k) t li lj Q'
      unfold wbX6_takeBack_c27_1 at hR ⊢
      exact ⟨fun c1 => hQ _ (hR.1 c1) (hN_mono (by omega) g), fun c2 => fun x3 e3 => ⟨fun c4 => hQ _ (((hR.2 c2) x3 e3).1 c4) (hN_mono (by omega) g), fun c5 => fun x6 e6 => ⟨((((hR.2 c2) x3 e3).2 c5) x6 e6).1, fun x7 e7 => ⟨fun c8 => (ih (b)).2.2 _ _ _ (by omega) g (fun z0 q0 g0 => hQ z0 q0 (hN_mono (by omega) g0)) ((((((hR.2 c2) x3 e3).2 c5) x6 e6).2 x7 e7).1 c8), fun c9 => ndX6_unite hh (by omega) g ((((((hR.2 c2) x3 e3).2 c5) x6 e6).2 x7 e7).2 c9) (fun y10_0 h10 g10 => (ih (b + 1)).2.2 _ _ _ (by omega) g10 (fun z0 q0 g0 => hQ z0 q0 (hN_mono (by omega) g0)) h10)⟩⟩⟩⟩
    · intro t li lj hb g hQ hR
      have hR : wbX6_takeBack_c27_2 (wpX6_takeBack_c27 k) k t li lj Q := hR
      show wbX6_takeBack_c27_2 (wpX6_takeBack_c27 (h + k)) (h + k) t li lj Q'
      unfold wbX6_takeBack_c27_2 at hR ⊢
      exact fun x1 e1 => (ih (b)).2.1 _ _ _ (by omega) g (fun z0 q0 g0 => hQ z0 q0 (hN_mono (by omega) g0)) (hR x1 e1)
theorem ndX6_takeBack_c27 {h b k : Nat} {t : XT} {a2 : Int32} {a3 : Int64} {Q Q' : XT → Prop} (hh : 300 ≤ h) (hb : b + (0 + 4 * k) < 2147483648) (g : hN b t) (hR : wqX6_takeBack_c27 k t a2 a3 Q) (hQ : ∀ t, Q t → hN (b + (0 + 4 * k)) t → Q' t) : wqX6_takeBack_c27 (h + k) t a2 a3 Q' := (ngX6_takeBack_c27 hh Q Q' k b).1 t _ _ hb g hQ hR
set_option maxHeartbeats 4000000 in
set_option maxRecDepth 100000 in
theorem ngX3_restore_c4 {h : Nat} (hh : 300 ≤ h) (Q Q' : XT → Prop) : ∀ (k b : Nat), (∀ (t : XT) (li : Nat → Int32) (lj : Nat → Int64), b + (0 + 4 * k) < 2147483648 → hN b t → (∀ t, Q t → hN (b + (0 + 4 * k)) t → Q' t) → wpX3_restore_c4 k 0 t li lj Q → wpX3_restore_c4 (h + k) 0 t li lj Q') := by
  intro k
  induction k with
  | zero => intro b; exact fun _ _ _ _ _ _ hR => False.elim hR
  | succ k ih =>
    intro b
    intro t li lj hb g hQ hR
    have hR : wbX3_restore_c4_0 (wpX3_restore_c4 k) k t li lj Q := hR
    show wbX3_restore_c4_0 (wpX3_restore_c4 (h + k)) (h + k) t li lj Q'
    unfold wbX3_restore_c4_0 at hR ⊢
    exact ⟨fun c1 => fun x2 e2 => fun x3 e3 => ⟨(((hR.1 c1) x2 e2) x3 e3).1, fun x4 e4 => fun x5 e5 => have g5 : hN (b) x5 := (by rw [e5]; exact hN_I (by decide) (by decide) (by decide) (by decide) g); fun x6 e6 => fun x7 e7 => have g7 : hN (b) x7 := (by rw [e7]; exact hN_I (by decide) (by decide) (by decide) (by decide) g5); fun x8 e8 => ⟨((((((((hR.1 c1) x2 e2) x3 e3).2 x4 e4) x5 e5) x6 e6) x7 e7) x8 e8).1, fun x9 e9 => ndX6_takeBack_c27 hh (by omega) g7 (((((((((hR.1 c1) x2 e2) x3 e3).2 x4 e4) x5 e5) x6 e6) x7 e7) x8 e8).2 x9 e9) (fun y10_0 h10 g10 => hQ _ h10 (hN_mono (by omega) g10))⟩⟩, fun c11 => hQ _ (hR.2 c11) (hN_mono (by omega) g)⟩
theorem ndX3_restore_c4 {h b k : Nat} {t : XT}  {Q Q' : XT → Prop} (hh : 300 ≤ h) (hb : b + (0 + 4 * k) < 2147483648) (g : hN b t) (hR : wqX3_restore_c4 k t  Q) (hQ : ∀ t, Q t → hN (b + (0 + 4 * k)) t → Q' t) : wqX3_restore_c4 (h + k) t  Q' := (ngX3_restore_c4 hh Q Q' k b) t _ _ hb g hQ hR
set_option maxHeartbeats 4000000 in
set_option maxRecDepth 100000 in
theorem ngX11_undo {h : Nat} (hh : 300 ≤ h) (Q Q' : Int32 → XT → Prop) : ∀ (k b : Nat), (∀ (t : XT) (li : Nat → Int32) (lj : Nat → Int64), b + (0 + 4 * k) < 2147483648 → hN b t → (∀ r t, Q r t → hN (b + (0 + 4 * k)) t → Q' r t) → wpX11_undo k 0 t li lj Q → wpX11_undo (h + k) 0 t li lj Q') := by
  intro k
  induction k with
  | zero => intro b; exact fun _ _ _ _ _ _ hR => False.elim hR
  | succ k ih =>
    intro b
    intro t li lj hb g hQ hR
    have hR : wbX11_undo_0 (wpX11_undo k) k t li lj Q := hR
    show wbX11_undo_0 (wpX11_undo (h + k)) (h + k) t li lj Q'
    unfold wbX11_undo_0 at hR ⊢
    exact ⟨fun c1 => ndX3_restore_c4 hh (by omega) g (hR.1 c1) (fun y2_0 h2 g2 => hQ _ _ h2 (hN_mono (by omega) g2)), fun c3 => hQ _ _ (hR.2 c3) (hN_mono (by omega) g)⟩
theorem ndX11_undo {h b k : Nat} {t : XT}  {Q Q' : Int32 → XT → Prop} (hh : 300 ≤ h) (hb : b + (0 + 4 * k) < 2147483648) (g : hN b t) (hR : wqX11_undo k t  Q) (hQ : ∀ r t, Q r t → hN (b + (0 + 4 * k)) t → Q' r t) : wqX11_undo (h + k) t  Q' := (ngX11_undo hh Q Q' k b) t _ _ hb g hQ hR
set_option maxHeartbeats 4000000 in
set_option maxRecDepth 100000 in
theorem ngX11_critical {h : Nat} (hh : 300 ≤ h) (Q Q' : Int32 → XT → Prop) : ∀ (k b : Nat), (∀ (t : XT) (li : Nat → Int32) (lj : Nat → Int64), b < 2147483648 → hN b t → (∀ r t, Q r t → hN (b) t → Q' r t) → wpX11_critical k 0 t li lj Q → wpX11_critical (h + k) 0 t li lj Q') ∧ (∀ (t : XT) (li : Nat → Int32) (lj : Nat → Int64), b < 2147483648 → hN b t → (∀ r t, Q r t → hN (b) t → Q' r t) → wpX11_critical k 1 t li lj Q → wpX11_critical (h + k) 1 t li lj Q') := by
  intro k
  induction k with
  | zero => intro b; exact ⟨fun _ _ _ _ _ _ hR => False.elim hR, fun _ _ _ _ _ _ hR => False.elim hR⟩
  | succ k ih =>
    intro b
    refine ⟨?_, ?_⟩
    · intro t li lj hb g hQ hR
      have hR : wbX11_critical_0 (wpX11_critical k) k t li lj Q := hR
      show wbX11_critical_0 (wpX11_critical (h + k)) (h + k) t li lj Q'
      unfold wbX11_critical_0 at hR ⊢
      exact ndX11_isDim hR (fun y1_0 h1 => ⟨fun c2 => (ih (b)).2 _ _ _ (by omega) g (fun z0 z1 q0 g0 => hQ z0 z1 q0 (hN_mono (by omega) g0)) (h1.1 c2), fun c3 => ⟨fun c4 => ndX6_unpaired hh (by omega) g ((h1.2 c3).1 c4) (fun y5_0 y5_1 h5 g5 => ⟨h5.1, fun x6 e6 => fun x7 e7 => ndX11_listed ((h5.2 x6 e6) x7 e7) (fun y8_0 h8 => hQ _ _ h8 (hN_mono (by omega) g5))⟩), fun c9 => (ih (b)).2 _ _ _ (by omega) g (fun z0 z1 q0 g0 => hQ z0 z1 q0 (hN_mono (by omega) g0)) ((h1.2 c3).2 c9)⟩⟩)
    · intro t li lj hb g hQ hR
      have hR : wbX11_critical_1 (wpX11_critical k) k t li lj Q := hR
      show wbX11_critical_1 (wpX11_critical (h + k)) (h + k) t li lj Q'
      unfold wbX11_critical_1 at hR ⊢
      exact hQ _ _ hR (hN_mono (by omega) g)
theorem ndX11_critical {h b k : Nat} {t : XT} {a1 : Int32} {a2 : Int32} {Q Q' : Int32 → XT → Prop} (hh : 300 ≤ h) (hb : b < 2147483648) (g : hN b t) (hR : wqX11_critical k t a1 a2 Q) (hQ : ∀ r t, Q r t → hN (b) t → Q' r t) : wqX11_critical (h + k) t a1 a2 Q' := (ngX11_critical hh Q Q' k b).1 t _ _ hb g hQ hR
set_option maxHeartbeats 4000000 in
set_option maxRecDepth 100000 in
theorem ngX11_paths {h : Nat} (hh : 300 ≤ h) (Q Q' : Int64 → XT → Prop) : ∀ (k b : Nat), (∀ (t : XT) (li : Nat → Int32) (lj : Nat → Int64), b < 2147483648 → hN b t → (∀ r t, Q r t → hN (b) t → Q' r t) → wpX11_paths k 0 t li lj Q → wpX11_paths (h + k) 0 t li lj Q') := by
  intro k
  induction k with
  | zero => intro b; exact fun _ _ _ _ _ _ hR => False.elim hR
  | succ k ih =>
    intro b
    intro t li lj hb g hQ hR
    have hR : wbX11_paths_0 (wpX11_paths k) k t li lj Q := hR
    show wbX11_paths_0 (wpX11_paths (h + k)) (h + k) t li lj Q'
    unfold wbX11_paths_0 at hR ⊢
    exact ndX11_areEnds hh (by omega) g hR (fun y1_0 y1_1 h1 g1 => ⟨fun c2 => ndX1_countWays hh (by omega) g1 (h1.1 c2) (fun y3_0 y3_1 h3 g3 => hQ _ _ h3 (hN_mono (by omega) g3)), fun c4 => hQ _ _ (h1.2 c4) (hN_mono (by omega) g1)⟩)
theorem ndX11_paths {h b k : Nat} {t : XT} {a1 : Int32} {a2 : Int32} {Q Q' : Int64 → XT → Prop} (hh : 300 ≤ h) (hb : b < 2147483648) (g : hN b t) (hR : wqX11_paths k t a1 a2 Q) (hQ : ∀ r t, Q r t → hN (b) t → Q' r t) : wqX11_paths (h + k) t a1 a2 Q' := (ngX11_paths hh Q Q' k b) t _ _ hb g hQ hR
set_option maxHeartbeats 4000000 in
set_option maxRecDepth 100000 in
theorem ngX11_path {h : Nat} (hh : 300 ≤ h) (Q Q' : Int32 → XT → Prop) : ∀ (k b : Nat), (∀ (t : XT) (li : Nat → Int32) (lj : Nat → Int64), b < 2147483648 → hN b t → (∀ r t, Q r t → hN (b) t → Q' r t) → wpX11_path k 0 t li lj Q → wpX11_path (h + k) 0 t li lj Q') ∧ (∀ (t : XT) (li : Nat → Int32) (lj : Nat → Int64), b < 2147483648 → hN b t → (∀ r t, Q r t → hN (b) t → Q' r t) → wpX11_path k 1 t li lj Q → wpX11_path (h + k) 1 t li lj Q') := by
  intro k
  induction k with
  | zero => intro b; exact ⟨fun _ _ _ _ _ _ hR => False.elim hR, fun _ _ _ _ _ _ hR => False.elim hR⟩
  | succ k ih =>
    intro b
    refine ⟨?_, ?_⟩
    · intro t li lj hb g hQ hR
      have hR : wbX11_path_0 (wpX11_path k) k t li lj Q := hR
      show wbX11_path_0 (wpX11_path (h + k)) (h + k) t li lj Q'
      unfold wbX11_path_0 at hR ⊢
      exact ndX11_areEnds hh (by omega) g hR (fun y1_0 y1_1 h1 g1 => ⟨fun c2 => (ih (b)).2 _ _ _ (by omega) g1 (fun z0 z1 q0 g0 => hQ z0 z1 q0 (hN_mono (by omega) g0)) (h1.1 c2), fun c3 => ⟨fun c4 => (ih (b)).2 _ _ _ (by omega) g1 (fun z0 z1 q0 g0 => hQ z0 z1 q0 (hN_mono (by omega) g0)) ((h1.2 c3).1 c4), fun c5 => ⟨fun c6 => fun x7 e7 => ndX1_countWays hh (by omega) g1 ((((h1.2 c3).2 c5).1 c6) x7 e7) (fun y8_0 y8_1 h8 g8 => fun x9 e9 => ⟨fun c10 => fun x11 e11 => ndX1_trace hh (by omega) g8 (((h8 x9 e9).1 c10) x11 e11) (fun y12_0 y12_1 h12 g12 => ⟨fun c13 => ⟨fun c14 => hQ _ _ ((h12.1 c13).1 c14) (hN_mono (by omega) g12), fun c15 => ⟨((h12.1 c13).2 c15).1, fun x16 e16 => hQ _ _ (((h12.1 c13).2 c15).2 x16 e16) (hN_mono (by omega) g12)⟩⟩, fun c17 => hQ _ _ (h12.2 c17) (hN_mono (by omega) g12)⟩), fun c18 => hQ _ _ ((h8 x9 e9).2 c18) (hN_mono (by omega) g8)⟩), fun c19 => (ih (b)).2 _ _ _ (by omega) g1 (fun z0 z1 q0 g0 => hQ z0 z1 q0 (hN_mono (by omega) g0)) (((h1.2 c3).2 c5).2 c19)⟩⟩⟩)
    · intro t li lj hb g hQ hR
      have hR : wbX11_path_1 (wpX11_path k) k t li lj Q := hR
      show wbX11_path_1 (wpX11_path (h + k)) (h + k) t li lj Q'
      unfold wbX11_path_1 at hR ⊢
      exact hQ _ _ hR (hN_mono (by omega) g)
theorem ndX11_path {h b k : Nat} {t : XT} {a1 : Int32} {a2 : Int32} {a3 : Int32} {a4 : Int32} {Q Q' : Int32 → XT → Prop} (hh : 300 ≤ h) (hb : b < 2147483648) (g : hN b t) (hR : wqX11_path k t a1 a2 a3 a4 Q) (hQ : ∀ r t, Q r t → hN (b) t → Q' r t) : wqX11_path (h + k) t a1 a2 a3 a4 Q' := (ngX11_path hh Q Q' k b).1 t _ _ hb g hQ hR
set_option maxHeartbeats 4000000 in
set_option maxRecDepth 100000 in
theorem ngX1_start {h : Nat} (hh : 300 ≤ h) (Q Q' : XT → Prop) : ∀ (k b : Nat), (∀ (t : XT) (li : Nat → Int32) (lj : Nat → Int64), b < 2147483648 → hN b t → (∀ t, Q t → hN (b) t → Q' t) → wpX1_start k 0 t li lj Q → wpX1_start (h + k) 0 t li lj Q') := by
  intro k
  induction k with
  | zero => intro b; exact fun _ _ _ _ _ _ hR => False.elim hR
  | succ k ih =>
    intro b
    intro t li lj hb g hQ hR
    have hR : wbX1_start_0 (wpX1_start k) k t li lj Q := hR
    show wbX1_start_0 (wpX1_start (h + k)) (h + k) t li lj Q'
    unfold wbX1_start_0 at hR ⊢
    exact ndX2_measure hh (by omega) g hR (fun y1_0 h1 g1 => fun x2 e2 => have g2 : hN (b) x2 := (by rw [e2]; exact hN_B (by decide) g1); ⟨(h1 x2 e2).1, fun x3 e3 => have g3 : hN (b) x3 := (by rw [e3]; exact hN_B (by decide) g2); hQ _ ((h1 x2 e2).2 x3 e3) (hN_mono (by omega) g3)⟩)
theorem ndX1_start {h b k : Nat} {t : XT} {a1 : Int32} {Q Q' : XT → Prop} (hh : 300 ≤ h) (hb : b < 2147483648) (g : hN b t) (hR : wqX1_start k t a1 Q) (hQ : ∀ t, Q t → hN (b) t → Q' t) : wqX1_start (h + k) t a1 Q' := (ngX1_start hh Q Q' k b) t _ _ hb g hQ hR
set_option maxHeartbeats 4000000 in
set_option maxRecDepth 100000 in
theorem ngX1_goDown {h : Nat} (hh : 300 ≤ h) (Q Q' : XT → Prop) : ∀ (k b : Nat), (∀ (t : XT) (li : Nat → Int32) (lj : Nat → Int64), b < 2147483648 → hN b t → (∀ t, Q t → hN (b) t → Q' t) → wpX1_goDown k 0 t li lj Q → wpX1_goDown (h + k) 0 t li lj Q') ∧ (∀ (t : XT) (li : Nat → Int32) (lj : Nat → Int64), b < 2147483648 → hN b t → (∀ t, Q t → hN (b) t → Q' t) → wpX1_goDown k 1 t li lj Q → wpX1_goDown (h + k) 1 t li lj Q') ∧ (∀ (t : XT) (li : Nat → Int32) (lj : Nat → Int64), b < 2147483648 → hN b t → (∀ t, Q t → hN (b) t → Q' t) → wpX1_goDown k 2 t li lj Q → wpX1_goDown (h + k) 2 t li lj Q') := by
  intro k
  induction k with
  | zero => intro b; exact ⟨fun _ _ _ _ _ _ hR => False.elim hR, fun _ _ _ _ _ _ hR => False.elim hR, fun _ _ _ _ _ _ hR => False.elim hR⟩
  | succ k ih =>
    intro b
    refine ⟨?_, ?_, ?_⟩
    · intro t li lj hb g hQ hR
      have hR : wbX1_goDown_0 (wpX1_goDown k) k t li lj Q := hR
      show wbX1_goDown_0 (wpX1_goDown (h + k)) (h + k) t li lj Q'
      unfold wbX1_goDown_0 at hR ⊢
      exact ndX6_below hh (by omega) g hR (fun y1_0 y1_1 h1 g1 => (ih (b)).2.1 _ _ _ (by omega) g1 (fun z0 q0 g0 => hQ z0 q0 (hN_mono (by omega) g0)) h1)
    · intro t li lj hb g hQ hR
      have hR : wbX1_goDown_1 (wpX1_goDown k) k t li lj Q := hR
      show wbX1_goDown_1 (wpX1_goDown (h + k)) (h + k) t li lj Q'
      unfold wbX1_goDown_1 at hR ⊢
      exact ⟨fun c1 => hQ _ (hR.1 c1) (hN_mono (by omega) g), fun c2 => fun x3 e3 => ⟨fun c4 => hQ _ (((hR.2 c2) x3 e3).1 c4) (hN_mono (by omega) g), fun c5 => ndX11_lowest (((hR.2 c2) x3 e3).2 c5) (fun y6_0 h6 => fun x7 e7 => fun x8 e8 => ⟨((h6 x7 e7) x8 e8).1, fun x9 e9 => ⟨fun c10 => ⟨((((h6 x7 e7) x8 e8).2 x9 e9).1 c10).1, fun x11 e11 => (ih (b)).2.2 _ _ _ (by omega) g (fun z0 q0 g0 => hQ z0 q0 (hN_mono (by omega) g0)) (((((h6 x7 e7) x8 e8).2 x9 e9).1 c10).2 x11 e11)⟩, fun c12 => ⟨((((h6 x7 e7) x8 e8).2 x9 e9).2 c12).1, fun x13 e13 => ndX9_signOf hh (by omega) g (((((h6 x7 e7) x8 e8).2 x9 e9).2 c12).2 x13 e13) (fun y14_0 y14_1 h14 g14 => fun x15 e15 => fun x16 e16 => (ih (b)).2.2 _ _ _ (by omega) g14 (fun z0 q0 g0 => hQ z0 q0 (hN_mono (by omega) g0)) ((h14 x15 e15) x16 e16))⟩⟩⟩)⟩⟩
    · intro t li lj hb g hQ hR
      have hR : wbX1_goDown_2 (wpX1_goDown k) k t li lj Q := hR
      show wbX1_goDown_2 (wpX1_goDown (h + k)) (h + k) t li lj Q'
      unfold wbX1_goDown_2 at hR ⊢
      exact fun x1 e1 => ⟨(hR x1 e1).1, fun x2 e2 => have g2 : hN (b) x2 := (by rw [e2]; exact hN_B (by decide) g); fun x3 e3 => (ih (b)).2.1 _ _ _ (by omega) g2 (fun z0 q0 g0 => hQ z0 q0 (hN_mono (by omega) g0)) (((hR x1 e1).2 x2 e2) x3 e3)⟩
theorem ndX1_goDown {h b k : Nat} {t : XT} {a1 : Int32} {a2 : Int32} {Q Q' : XT → Prop} (hh : 300 ≤ h) (hb : b < 2147483648) (g : hN b t) (hR : wqX1_goDown k t a1 a2 Q) (hQ : ∀ t, Q t → hN (b) t → Q' t) : wqX1_goDown (h + k) t a1 a2 Q' := (ngX1_goDown hh Q Q' k b).1 t _ _ hb g hQ hR
set_option maxHeartbeats 4000000 in
set_option maxRecDepth 100000 in
theorem ngX1_goUp {h : Nat} (hh : 300 ≤ h) (Q Q' : XT → Prop) : ∀ (k b : Nat), (∀ (t : XT) (li : Nat → Int32) (lj : Nat → Int64), b < 2147483648 → hN b t → (∀ t, Q t → hN (b) t → Q' t) → wpX1_goUp k 0 t li lj Q → wpX1_goUp (h + k) 0 t li lj Q') ∧ (∀ (t : XT) (li : Nat → Int32) (lj : Nat → Int64), b < 2147483648 → hN b t → (∀ t, Q t → hN (b) t → Q' t) → wpX1_goUp k 1 t li lj Q → wpX1_goUp (h + k) 1 t li lj Q') := by
  intro k
  induction k with
  | zero => intro b; exact ⟨fun _ _ _ _ _ _ hR => False.elim hR, fun _ _ _ _ _ _ hR => False.elim hR⟩
  | succ k ih =>
    intro b
    refine ⟨?_, ?_⟩
    · intro t li lj hb g hQ hR
      have hR : wbX1_goUp_0 (wpX1_goUp k) k t li lj Q := hR
      show wbX1_goUp_0 (wpX1_goUp (h + k)) (h + k) t li lj Q'
      unfold wbX1_goUp_0 at hR ⊢
      exact ⟨hR.1, fun x1 e1 => ⟨fun c2 => ⟨((hR.2 x1 e1).1 c2).1, fun x3 e3 => ⟨fun c4 => ⟨((((hR.2 x1 e1).1 c2).2 x3 e3).1 c4).1, fun x5 e5 => (ih (b)).2 _ _ _ (by omega) g (fun z0 q0 g0 => hQ z0 q0 (hN_mono (by omega) g0)) (((((hR.2 x1 e1).1 c2).2 x3 e3).1 c4).2 x5 e5)⟩, fun c6 => ⟨((((hR.2 x1 e1).1 c2).2 x3 e3).2 c6).1, fun x7 e7 => fun x8 e8 => ndX9_signOf hh (by omega) g ((((((hR.2 x1 e1).1 c2).2 x3 e3).2 c6).2 x7 e7) x8 e8) (fun y9_0 y9_1 h9 g9 => fun x10 e10 => fun x11 e11 => (ih (b)).2 _ _ _ (by omega) g9 (fun z0 q0 g0 => hQ z0 q0 (hN_mono (by omega) g0)) ((h9 x10 e10) x11 e11))⟩⟩⟩, fun c12 => hQ _ ((hR.2 x1 e1).2 c12) (hN_mono (by omega) g)⟩⟩
    · intro t li lj hb g hQ hR
      have hR : wbX1_goUp_1 (wpX1_goUp k) k t li lj Q := hR
      show wbX1_goUp_1 (wpX1_goUp (h + k)) (h + k) t li lj Q'
      unfold wbX1_goUp_1 at hR ⊢
      exact fun x1 e1 => ⟨(hR x1 e1).1, fun x2 e2 => have g2 : hN (b) x2 := (by rw [e2]; exact hN_B (by decide) g); hQ _ ((hR x1 e1).2 x2 e2) (hN_mono (by omega) g2)⟩
theorem ndX1_goUp {h b k : Nat} {t : XT} {a1 : Int32} {a2 : Int32} {Q Q' : XT → Prop} (hh : 300 ≤ h) (hb : b < 2147483648) (g : hN b t) (hR : wqX1_goUp k t a1 a2 Q) (hQ : ∀ t, Q t → hN (b) t → Q' t) : wqX1_goUp (h + k) t a1 a2 Q' := (ngX1_goUp hh Q Q' k b).1 t _ _ hb g hQ hR
set_option maxHeartbeats 4000000 in
set_option maxRecDepth 100000 in
theorem ngX1_pour {h : Nat} (hh : 300 ≤ h) (Q Q' : XT → Prop) : ∀ (k b : Nat), (∀ (t : XT) (li : Nat → Int32) (lj : Nat → Int64), b < 2147483648 → hN b t → (∀ t, Q t → hN (b) t → Q' t) → wpX1_pour k 0 t li lj Q → wpX1_pour (h + k) 0 t li lj Q') ∧ (∀ (t : XT) (li : Nat → Int32) (lj : Nat → Int64), b < 2147483648 → hN b t → (∀ t, Q t → hN (b) t → Q' t) → wpX1_pour k 1 t li lj Q → wpX1_pour (h + k) 1 t li lj Q') ∧ (∀ (t : XT) (li : Nat → Int32) (lj : Nat → Int64), b < 2147483648 → hN b t → (∀ t, Q t → hN (b) t → Q' t) → wpX1_pour k 2 t li lj Q → wpX1_pour (h + k) 2 t li lj Q') ∧ (∀ (t : XT) (li : Nat → Int32) (lj : Nat → Int64), b < 2147483648 → hN b t → (∀ t, Q t → hN (b) t → Q' t) → wpX1_pour k 3 t li lj Q → wpX1_pour (h + k) 3 t li lj Q') := by
  intro k
  induction k with
  | zero => intro b; exact ⟨fun _ _ _ _ _ _ hR => False.elim hR, fun _ _ _ _ _ _ hR => False.elim hR, fun _ _ _ _ _ _ hR => False.elim hR, fun _ _ _ _ _ _ hR => False.elim hR⟩
  | succ k ih =>
    intro b
    refine ⟨?_, ?_, ?_, ?_⟩
    · intro t li lj hb g hQ hR
      have hR : wbX1_pour_0 (wpX1_pour k) k t li lj Q := hR
      show wbX1_pour_0 (wpX1_pour (h + k)) (h + k) t li lj Q'
      unfold wbX1_pour_0 at hR ⊢
      exact fun x1 e1 => (ih (b)).2.1 _ _ _ (by omega) g (fun z0 q0 g0 => hQ z0 q0 (hN_mono (by omega) g0)) (hR x1 e1)
    · intro t li lj hb g hQ hR
      have hR : wbX1_pour_1 (wpX1_pour k) k t li lj Q := hR
      show wbX1_pour_1 (wpX1_pour (h + k)) (h + k) t li lj Q'
      unfold wbX1_pour_1 at hR ⊢
      exact ⟨fun c1 => hQ _ (hR.1 c1) (hN_mono (by omega) g), fun c2 => ⟨(hR.2 c2).1, fun x3 e3 => ⟨((hR.2 c2).2 x3 e3).1, fun x4 e4 => fun x5 e5 => ⟨fun c6 => (ih (b)).2.2.1 _ _ _ (by omega) g (fun z0 q0 g0 => hQ z0 q0 (hN_mono (by omega) g0)) (((((hR.2 c2).2 x3 e3).2 x4 e4) x5 e5).1 c6), fun c7 => ⟨(((((hR.2 c2).2 x3 e3).2 x4 e4) x5 e5).2 c7).1, fun x8 e8 => ⟨fun c9 => (ih (b)).2.2.1 _ _ _ (by omega) g (fun z0 q0 g0 => hQ z0 q0 (hN_mono (by omega) g0)) (((((((hR.2 c2).2 x3 e3).2 x4 e4) x5 e5).2 c7).2 x8 e8).1 c9), fun c10 => ndX1_goDown hh (by omega) g (((((((hR.2 c2).2 x3 e3).2 x4 e4) x5 e5).2 c7).2 x8 e8).2 c10) (fun y11_0 h11 g11 => (ih (b)).2.2.2 _ _ _ (by omega) g11 (fun z0 q0 g0 => hQ z0 q0 (hN_mono (by omega) g0)) h11)⟩⟩⟩⟩⟩⟩
    · intro t li lj hb g hQ hR
      have hR : wbX1_pour_2 (wpX1_pour k) k t li lj Q := hR
      show wbX1_pour_2 (wpX1_pour (h + k)) (h + k) t li lj Q'
      unfold wbX1_pour_2 at hR ⊢
      exact ⟨hR.1, fun x1 e1 => fun x2 e2 => ⟨fun c3 => (ih (b)).2.2.2 _ _ _ (by omega) g (fun z0 q0 g0 => hQ z0 q0 (hN_mono (by omega) g0)) (((hR.2 x1 e1) x2 e2).1 c3), fun c4 => ⟨(((hR.2 x1 e1) x2 e2).2 c4).1, fun x5 e5 => fun x6 e6 => ⟨fun c7 => (ih (b)).2.2.2 _ _ _ (by omega) g (fun z0 q0 g0 => hQ z0 q0 (hN_mono (by omega) g0)) ((((((hR.2 x1 e1) x2 e2).2 c4).2 x5 e5) x6 e6).1 c7), fun c8 => ndX1_goUp hh (by omega) g ((((((hR.2 x1 e1) x2 e2).2 c4).2 x5 e5) x6 e6).2 c8) (fun y9_0 h9 g9 => (ih (b)).2.2.2 _ _ _ (by omega) g9 (fun z0 q0 g0 => hQ z0 q0 (hN_mono (by omega) g0)) h9)⟩⟩⟩⟩
    · intro t li lj hb g hQ hR
      have hR : wbX1_pour_3 (wpX1_pour k) k t li lj Q := hR
      show wbX1_pour_3 (wpX1_pour (h + k)) (h + k) t li lj Q'
      unfold wbX1_pour_3 at hR ⊢
      exact fun x1 e1 => (ih (b)).2.1 _ _ _ (by omega) g (fun z0 q0 g0 => hQ z0 q0 (hN_mono (by omega) g0)) (hR x1 e1)
theorem ndX1_pour {h b k : Nat} {t : XT} {a1 : Int32} {a2 : Int32} {Q Q' : XT → Prop} (hh : 300 ≤ h) (hb : b < 2147483648) (g : hN b t) (hR : wqX1_pour k t a1 a2 Q) (hQ : ∀ t, Q t → hN (b) t → Q' t) : wqX1_pour (h + k) t a1 a2 Q' := (ngX1_pour hh Q Q' k b).1 t _ _ hb g hQ hR
set_option maxHeartbeats 4000000 in
set_option maxRecDepth 100000 in
theorem ngX11_incidence {h : Nat} (hh : 300 ≤ h) (Q Q' : Int64 → XT → Prop) : ∀ (k b : Nat), (∀ (t : XT) (li : Nat → Int32) (lj : Nat → Int64), b < 2147483648 → hN b t → (∀ r t, Q r t → hN (b) t → Q' r t) → wpX11_incidence k 0 t li lj Q → wpX11_incidence (h + k) 0 t li lj Q') := by
  intro k
  induction k with
  | zero => intro b; exact fun _ _ _ _ _ _ hR => False.elim hR
  | succ k ih =>
    intro b
    intro t li lj hb g hQ hR
    have hR : wbX11_incidence_0 (wpX11_incidence k) k t li lj Q := hR
    show wbX11_incidence_0 (wpX11_incidence (h + k)) (h + k) t li lj Q'
    unfold wbX11_incidence_0 at hR ⊢
    exact ndX11_areEnds hh (by omega) g hR (fun y1_0 y1_1 h1 g1 => ⟨fun c2 => ndX1_start hh (by omega) g1 (h1.1 c2) (fun y3_0 h3 g3 => ⟨h3.1, fun x4 e4 => ndX1_pour hh (by omega) g3 (h3.2 x4 e4) (fun y5_0 h5 g5 => ⟨h5.1, fun x6 e6 => hQ _ _ (h5.2 x6 e6) (hN_mono (by omega) g5)⟩)⟩), fun c7 => hQ _ _ (h1.2 c7) (hN_mono (by omega) g1)⟩)
theorem ndX11_incidence {h b k : Nat} {t : XT} {a1 : Int32} {a2 : Int32} {Q Q' : Int64 → XT → Prop} (hh : 300 ≤ h) (hb : b < 2147483648) (g : hN b t) (hR : wqX11_incidence k t a1 a2 Q) (hQ : ∀ r t, Q r t → hN (b) t → Q' r t) : wqX11_incidence (h + k) t a1 a2 Q' := (ngX11_incidence hh Q Q' k b) t _ _ hb g hQ hR
set_option maxHeartbeats 4000000 in
set_option maxRecDepth 100000 in
theorem ngX11_chain {h : Nat} (hh : 300 ≤ h) (Q Q' : Int64 → XT → Prop) : ∀ (k b : Nat), (∀ (t : XT) (li : Nat → Int32) (lj : Nat → Int64), b < 2147483648 → hN b t → (∀ r t, Q r t → hN (b) t → Q' r t) → wpX11_chain k 0 t li lj Q → wpX11_chain (h + k) 0 t li lj Q') ∧ (∀ (t : XT) (li : Nat → Int32) (lj : Nat → Int64), b < 2147483648 → hN b t → (∀ r t, Q r t → hN (b) t → Q' r t) → wpX11_chain k 1 t li lj Q → wpX11_chain (h + k) 1 t li lj Q') := by
  intro k
  induction k with
  | zero => intro b; exact ⟨fun _ _ _ _ _ _ hR => False.elim hR, fun _ _ _ _ _ _ hR => False.elim hR⟩
  | succ k ih =>
    intro b
    refine ⟨?_, ?_⟩
    · intro t li lj hb g hQ hR
      have hR : wbX11_chain_0 (wpX11_chain k) k t li lj Q := hR
      show wbX11_chain_0 (wpX11_chain (h + k)) (h + k) t li lj Q'
      unfold wbX11_chain_0 at hR ⊢
      exact ndX11_isThere hh (by omega) g hR (fun y1_0 y1_1 h1 g1 => ⟨fun c2 => (ih (b)).2 _ _ _ (by omega) g1 (fun z0 z1 q0 g0 => hQ z0 z1 q0 (hN_mono (by omega) g0)) (h1.1 c2), fun c3 => ndX11_isThere hh (by omega) g1 (h1.2 c3) (fun y4_0 y4_1 h4 g4 => ⟨fun c5 => (ih (b)).2 _ _ _ (by omega) g4 (fun z0 z1 q0 g0 => hQ z0 z1 q0 (hN_mono (by omega) g0)) (h4.1 c5), fun c6 => ndX6_isCritical hh (by omega) g4 (h4.2 c6) (fun y7_0 y7_1 h7 g7 => ⟨fun c8 => ⟨(h7.1 c8).1, fun x9 e9 => ⟨((h7.1 c8).2 x9 e9).1, fun x10 e10 => ⟨fun c11 => ndX1_start hh (by omega) g7 ((((h7.1 c8).2 x9 e9).2 x10 e10).1 c11) (fun y12_0 h12 g12 => ⟨h12.1, fun x13 e13 => ndX1_pour hh (by omega) g12 (h12.2 x13 e13) (fun y14_0 h14 g14 => ⟨h14.1, fun x15 e15 => hQ _ _ (h14.2 x15 e15) (hN_mono (by omega) g14)⟩)⟩), fun c16 => hQ _ _ ((((h7.1 c8).2 x9 e9).2 x10 e10).2 c16) (hN_mono (by omega) g7)⟩⟩⟩, fun c17 => (ih (b)).2 _ _ _ (by omega) g7 (fun z0 z1 q0 g0 => hQ z0 z1 q0 (hN_mono (by omega) g0)) (h7.2 c17)⟩)⟩)⟩)
    · intro t li lj hb g hQ hR
      have hR : wbX11_chain_1 (wpX11_chain k) k t li lj Q := hR
      show wbX11_chain_1 (wpX11_chain (h + k)) (h + k) t li lj Q'
      unfold wbX11_chain_1 at hR ⊢
      exact hQ _ _ hR (hN_mono (by omega) g)
theorem ndX11_chain {h b k : Nat} {t : XT} {a1 : Int32} {a2 : Int32} {Q Q' : Int64 → XT → Prop} (hh : 300 ≤ h) (hb : b < 2147483648) (g : hN b t) (hR : wqX11_chain k t a1 a2 Q) (hQ : ∀ r t, Q r t → hN (b) t → Q' r t) : wqX11_chain (h + k) t a1 a2 Q' := (ngX11_chain hh Q Q' k b).1 t _ _ hb g hQ hR
set_option maxHeartbeats 4000000 in
set_option maxRecDepth 100000 in
theorem ngX11_root {h : Nat} (hh : 300 ≤ h) (Q Q' : Int32 → XT → Prop) : ∀ (k b : Nat), (∀ (t : XT) (li : Nat → Int32) (lj : Nat → Int64), b < 2147483648 → hN b t → (∀ r t, Q r t → hN (b) t → Q' r t) → wpX11_root k 0 t li lj Q → wpX11_root (h + k) 0 t li lj Q') ∧ (∀ (t : XT) (li : Nat → Int32) (lj : Nat → Int64), b < 2147483648 → hN b t → (∀ r t, Q r t → hN (b) t → Q' r t) → wpX11_root k 1 t li lj Q → wpX11_root (h + k) 1 t li lj Q') ∧ (∀ (t : XT) (li : Nat → Int32) (lj : Nat → Int64), b < 2147483648 → hN b t → (∀ r t, Q r t → hN (b) t → Q' r t) → wpX11_root k 2 t li lj Q → wpX11_root (h + k) 2 t li lj Q') ∧ (∀ (t : XT) (li : Nat → Int32) (lj : Nat → Int64), b < 2147483648 → hN b t → (∀ r t, Q r t → hN (b) t → Q' r t) → wpX11_root k 3 t li lj Q → wpX11_root (h + k) 3 t li lj Q') := by
  intro k
  induction k with
  | zero => intro b; exact ⟨fun _ _ _ _ _ _ hR => False.elim hR, fun _ _ _ _ _ _ hR => False.elim hR, fun _ _ _ _ _ _ hR => False.elim hR, fun _ _ _ _ _ _ hR => False.elim hR⟩
  | succ k ih =>
    intro b
    refine ⟨?_, ?_, ?_, ?_⟩
    · intro t li lj hb g hQ hR
      have hR : wbX11_root_0 (wpX11_root k) k t li lj Q := hR
      show wbX11_root_0 (wpX11_root (h + k)) (h + k) t li lj Q'
      unfold wbX11_root_0 at hR ⊢
      exact ndX11_isThere hh (by omega) g hR (fun y1_0 y1_1 h1 g1 => ⟨fun c2 => (ih (b)).2.1 _ _ _ (by omega) g1 (fun z0 z1 q0 g0 => hQ z0 z1 q0 (hN_mono (by omega) g0)) (h1.1 c2), fun c3 => ⟨(h1.2 c3).1, fun x4 e4 => ⟨fun c5 => (ih (b)).2.1 _ _ _ (by omega) g1 (fun z0 z1 q0 g0 => hQ z0 z1 q0 (hN_mono (by omega) g0)) (((h1.2 c3).2 x4 e4).1 c5), fun c6 => ⟨fun c7 => (ih (b)).2.1 _ _ _ (by omega) g1 (fun z0 z1 q0 g0 => hQ z0 z1 q0 (hN_mono (by omega) g0)) ((((h1.2 c3).2 x4 e4).2 c6).1 c7), fun c8 => ⟨fun c9 => (ih (b)).2.2.1 _ _ _ (by omega) g1 (fun z0 z1 q0 g0 => hQ z0 z1 q0 (hN_mono (by omega) g0)) (((((h1.2 c3).2 x4 e4).2 c6).2 c8).1 c9), fun c10 => (ih (b)).2.1 _ _ _ (by omega) g1 (fun z0 z1 q0 g0 => hQ z0 z1 q0 (hN_mono (by omega) g0)) (((((h1.2 c3).2 x4 e4).2 c6).2 c8).2 c10)⟩⟩⟩⟩⟩)
    · intro t li lj hb g hQ hR
      have hR : wbX11_root_1 (wpX11_root k) k t li lj Q := hR
      show wbX11_root_1 (wpX11_root (h + k)) (h + k) t li lj Q'
      unfold wbX11_root_1 at hR ⊢
      exact hQ _ _ hR (hN_mono (by omega) g)
    · intro t li lj hb g hQ hR
      have hR : wbX11_root_2 (wpX11_root k) k t li lj Q := hR
      show wbX11_root_2 (wpX11_root (h + k)) (h + k) t li lj Q'
      unfold wbX11_root_2 at hR ⊢
      exact ⟨fun c1 => (ih (b)).2.2.2 _ _ _ (by omega) g (fun z0 z1 q0 g0 => hQ z0 z1 q0 (hN_mono (by omega) g0)) (hR.1 c1), fun c2 => ⟨(hR.2 c2).1, fun x3 e3 => ⟨fun c4 => (ih (b)).2.2.2 _ _ _ (by omega) g (fun z0 z1 q0 g0 => hQ z0 z1 q0 (hN_mono (by omega) g0)) (((hR.2 c2).2 x3 e3).1 c4), fun c5 => ⟨(((hR.2 c2).2 x3 e3).2 c5).1, fun x6 e6 => ⟨((((hR.2 c2).2 x3 e3).2 c5).2 x6 e6).1, fun x7 e7 => ndX11_bit (((((hR.2 c2).2 x3 e3).2 c5).2 x6 e6).2 x7 e7) (fun y8_0 h8 => fun x9 e9 => fun x10 e10 => ndX11_lowest ((h8 x9 e9) x10 e10) (fun y11_0 h11 => fun x12 e12 => fun x13 e13 => (ih (b)).2.2.1 _ _ _ (by omega) g (fun z0 z1 q0 g0 => hQ z0 z1 q0 (hN_mono (by omega) g0)) ((h11 x12 e12) x13 e13)))⟩⟩⟩⟩⟩
    · intro t li lj hb g hQ hR
      have hR : wbX11_root_3 (wpX11_root k) k t li lj Q := hR
      show wbX11_root_3 (wpX11_root (h + k)) (h + k) t li lj Q'
      unfold wbX11_root_3 at hR ⊢
      exact ⟨fun c1 => hQ _ _ (hR.1 c1) (hN_mono (by omega) g), fun c2 => hQ _ _ (hR.2 c2) (hN_mono (by omega) g)⟩
theorem ndX11_root {h b k : Nat} {t : XT} {a1 : Int32} {a2 : Int32} {Q Q' : Int32 → XT → Prop} (hh : 300 ≤ h) (hb : b < 2147483648) (g : hN b t) (hR : wqX11_root k t a1 a2 Q) (hQ : ∀ r t, Q r t → hN (b) t → Q' r t) : wqX11_root (h + k) t a1 a2 Q' := (ngX11_root hh Q Q' k b).1 t _ _ hb g hQ hR
