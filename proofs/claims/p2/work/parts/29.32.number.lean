/-! ===== number and sign answer alike ===== -/
theorem hnO_none {L : Nat → Int32} {c a : Nat} (h : ∀ k, k < c → L k ≠ nI a) : hnO L c a = -1 := by
  induction c with
  | zero => rfl
  | succ c ih =>
    show (if L c = nI a then nI c else hnO L c a) = -1
    rw [if_neg (h c (Nat.lt_succ_self c))]
    exact ih (fun k hk => h k (by omega))
theorem hnx_number {t : XT} {L : Nat → Int32} {c K : Nat} {a : Int32} {Q : Int32 → XT → Prop} (hE : hcE t L c) (hL : hnL L c) (hK : 2 ≤ K)
    (h1 : ∀ j, 1 ≤ j → j < 256 → a = nI j → Q (hnO L c j) t) (h0 : (∀ j, 1 ≤ j → j < 256 → a ≠ nI j) → Q (-1) t) : wqX11_number K t a Q := by
  obtain ⟨K, rfl⟩ : ∃ K', K = K' + 2 := ⟨K - 2, by omega⟩
  show wbX11_number_0 (wpX11_number (K + 1)) (K + 1) t (uI (fun _ => 0) 1 a) (fun _ => 0) Q
  refine ⟨fun x => ?_, fun x => ⟨fun y => ?_, fun y => ?_⟩⟩
  · refine h0 (fun j _ hj e => ?_)
    have x : a < 0 := x
    rw [e] at x
    exact absurd x (nI_pos (by omega))
  · obtain ⟨j, hj, e⟩ := nI_of (x := a) x
    have j256 : j < 256 := by
      have y := Int32.lt_iff_toInt_lt.mp (show a < 256 from y)
      rw [e, nI_toInt (by omega), show (256 : Int32).toInt = 256 from by decide] at y
      omega
    refine ⟨by show vp_in a 256; rw [e]; exact vp_in_nI j256 (by decide), fun v3 e3 => ?_⟩
    have e3 : v3 = t.2.2.1 4 a.toNatClampNeg := e3
    rw [e, nI_clamp (by omega), hE.2.2.2.1 j j256] at e3
    rw [e3]
    by_cases z : j = 0
    · subst z
      rw [hnO_none (fun k hk q => ?_)]
      · exact h0 (fun i i1 i2 q => by have := (nI_eq (by omega) (by omega)).mp (e.symm.trans q); omega)
      · obtain ⟨x, x0, x1, x2, _⟩ := hL.2.2.1 k hk
        have := (nI_eq (by omega) (by omega)).mp (x2.symm.trans q)
        omega
    · exact h1 j (by omega) j256 e
  · refine h0 (fun j _ hj e => ?_)
    have y : ¬ a < 256 := y
    rw [e] at y
    exact y (show nI j < nI 256 from nI_lt hj (by omega))
theorem hnm_number {t : XT} {L : Nat → Int32} {c K : Nat} {a : Int32} {Q : Int32 → XT → Prop} (hM : hmE t L c) (hL : hnL L c) (hK : 4 ≤ K)
    (h1 : ∀ j, 1 ≤ j → j < 256 → a = nI j → Q (hnO L c j) t) (h0 : (∀ j, 1 ≤ j → j < 256 → a ≠ nI j) → Q (-1) t) : wqX12_number K t a Q := by
  obtain ⟨K, rfl⟩ : ∃ K', K = K' + 2 := ⟨K - 2, by omega⟩
  show wbX12_number_0 (wpX12_number (K + 1)) (K + 1) t (uI (fun _ => 0) 1 a) (fun _ => 0) Q
  refine hm_in (v := a) (by omega) ?_
  by_cases z : (1 : Int32) ≤ a ∧ a ≤ 255
  · have q1 := Int32.le_iff_toInt_le.mp z.1
    have q2 := Int32.le_iff_toInt_le.mp z.2
    rw [show (1 : Int32).toInt = 1 from by decide] at q1
    rw [show (255 : Int32).toInt = 255 from by decide] at q2
    obtain ⟨j, hj, e⟩ := nI_of (x := a) (fun w => by
      have w := Int32.lt_iff_toInt_lt.mp w
      rw [show (0 : Int32).toInt = 0 from by decide] at w
      omega)
    rw [e, nI_toInt (by omega)] at q1 q2
    have out := h1 j (by omega) (by omega) e
    rw [if_pos z]
    refine ⟨fun x => absurd x (by decide), fun _ => ?_⟩
    rw [hM.1]
    refine ⟨fun x => ?_, fun x => ⟨by show vp_in a 256; rw [e]; exact vp_in_nI (by omega) (by decide), fun v4 e4 => ?_⟩⟩
    · have c0 : c = 0 := by
        have x := Int32.le_iff_toInt_le.mp x
        have hc := hL.1
        rw [nI_toInt (by omega), show (0 : Int32).toInt = 0 from by decide] at x
        omega
      subst c0
      exact out
    · have c0 : c ≠ 0 := fun q => x (by rw [q]; decide)
      have e4 : v4 = t.2.2.1 3 a.toNatClampNeg := e4
      rw [e, nI_clamp (by omega), hM.2.2 c0 j (by omega)] at e4
      rw [e4]; exact out
  · rw [if_neg z]
    refine ⟨fun _ => h0 (fun j j1 j2 e => z ?_), fun x => absurd rfl x⟩
    rw [e]
    exact ⟨show nI 1 ≤ nI j from nI_le (by omega) (by omega), show nI j ≤ nI 255 from nI_le (by omega) (by omega)⟩
theorem hab_number (n : Nat) (tx tm : XT) (p1 : Int32) (hJ : hJs (n + 1) tx tm) : ∃ k, wqX11_number k tx p1 (fun r1 tx' => ∃ k', wqX12_number k' tm p1 (fun r2 tm' => r1 = r2 ∧ hJs n tx' tm')) := by
  obtain ⟨k, w⟩ := has_number n tx tm p1 hJ
  obtain ⟨_, c, L, hL, hE, hM⟩ := hJ
  have ex : wqX11_number (k + 2) tx p1 (fun r _ => (∀ j, 1 ≤ j → j < 256 → p1 = nI j → r = hnO L c j) ∧ ((∀ j, 1 ≤ j → j < 256 → p1 ≠ nI j) → r = -1)) := hnx_number hE hL (by omega) (fun j j1 j2 e => ⟨fun i i1 i2 q => by rw [(nI_eq (by omega) (by omega)).mp (e.symm.trans q)], fun no => absurd e (no j j1 j2)⟩) (fun no => ⟨fun j j1 j2 e => absurd e (no j j1 j2), fun _ => rfl⟩)
  refine ⟨k + 2, wiX11_number (wmX11_number (Nat.le_add_right k 2) (fun _ _ h => h) w) ex (fun r1 tx' h g => ?_)⟩
  obtain ⟨k', w'⟩ := h
  have em : wqX12_number (k' + 4) tm p1 (fun r _ => r1 = r) := hnm_number hM hL (by omega) (fun j j1 j2 e => g.1 j j1 j2 e) (fun no => g.2 no)
  exact ⟨k' + 4, wiX12_number (wmX12_number (Nat.le_add_right k' 4) (fun _ _ h => h) w') em (fun r2 tm' h' g' => ⟨g', h'⟩)⟩
