/-! ===== drawn answers alike: both sides put together ===== -/
theorem hmx_drawn0 {K : Nat} {t : XT} {a b : Int32} {Q : Int32 → XT → Prop} (h : wbX12_drawn_0 (wpX12_drawn (K + 1)) (K + 1) t (uI (uI (fun _ => 0) 1 a) 2 b) (fun _ => 0) Q) : wqX12_drawn (K + 2) t a b Q := h
theorem hpx_drawn0 {K : Nat} {t : XT} {a b : Int32} {Q : Int32 → XT → Prop} (h : wbX11_drawn_0 (wpX11_drawn (K + 1)) (K + 1) t (uI (uI (fun _ => 0) 1 a) 2 b) (fun _ => 0) Q) : wqX11_drawn (K + 2) t a b Q := h
theorem hmx_dr2 {K : Nat} {t : XT} {li : Nat → Int32} {lj : Nat → Int64} {Q : Int32 → XT → Prop} (h : wpX12_drawn K 2 (sA t 13 (t.2.2.1 13)) li lj Q) : wpX12_drawn K 2 t li lj Q := by
  rw [hm_sA0] at h
  exact h
theorem hmx_dr1 {K : Nat} {t : XT} {li : Nat → Int32} {lj : Nat → Int64} {Q : Int32 → XT → Prop} (h : Q (-1) t) : wpX12_drawn (K + 1) 1 t li lj Q := h
theorem hpx_dr1 {K : Nat} {t : XT} {li : Nat → Int32} {lj : Nat → Int64} {Q : Int32 → XT → Prop} (h : Q (-1) t) : wpX11_drawn (K + 1) 1 t li lj Q := h
theorem hac_drawn (n : Nat) (tx tm : XT) (p1 p2 : Int32) (hJ : hAl (n + 1) tx tm) : ∃ k, wqX11_drawn k tx p1 p2 (fun r1 tx' => ∃ k', wqX12_drawn k' tm p1 p2 (fun r2 tm' => r1 = r2 ∧ hAl n tx' tm')) := by
  obtain ⟨hJ, c, L, hL, hE, hM, hP, hH, hK⟩ := hJ
  have hc := hL.1
  obtain ⟨z, x, hR, gx, hC, gy, gT⟩ := id hJ
  obtain ⟨hz, e0, hx, m, m', hI, hG⟩ := id hR
  rw [gx] at hx
  obtain ⟨KA, hKA⟩ : ∃ KA, KA = 100000 := ⟨_, rfl⟩
  refine hfi_drawn (A := KA + 2) (B := KA + 2) hJ hL hE hM ?_
  have none : (c = 0 ∨ ¬ ((1 : Int32) ≤ p1 ∧ p1 ≤ 40) ∨ ¬ ((0 : Int32) ≤ p2 ∧ p2 ≤ 2)) → wqX12_drawn (KA + 2) tm p1 p2 (fun r2 tm' => (-1 : Int32) = r2 ∧ hPJ tx tm' c ∧ hHJ tx tm' c ∧ hKJ tx tm' c) := by
    intro w
    refine hmx_drawn0 ⟨fun _ => hmx_dr1 ⟨rfl, hP, hH, hK⟩, fun nz => ?_⟩
    have nc : c ≠ 0 := fun y => nz (by rw [hM.1, y]; rfl)
    refine hm_in (by omega) ⟨fun _ => hmx_dr1 ⟨rfl, hP, hH, hK⟩, fun n1 => ?_⟩
    refine hm_in (by omega) ⟨fun n2 => ?_, fun _ => hmx_dr1 ⟨rfl, hP, hH, hK⟩⟩
    refine absurd w (fun w => ?_)
    rcases w with w | w | w
    · exact nc w
    · exact n1 (if_neg w)
    · exact n2 (if_neg w)
  have one : ∀ {a : Int32}, ¬ a < 1 → (1 : Int32) ≤ a := fun h => Int32.not_lt.mp h
  refine hpx_drawn0 ⟨fun h => hpx_dr1 (none (Or.inr (Or.inl (fun w => absurd h (Int32.not_lt.mpr w.1))))), fun h1 => ⟨fun h => hpx_dr1 (none (Or.inr (Or.inl (fun w => absurd h (Int32.not_lt.mpr w.2))))), fun h2 => ⟨fun h => hpx_dr1 (none (Or.inr (Or.inr (fun w => absurd h (Int32.not_lt.mpr w.1))))), fun h3 => ⟨fun h => hpx_dr1 (none (Or.inr (Or.inr (fun w => absurd h (Int32.not_lt.mpr w.2))))), fun h4 => ⟨fun nz => ?_, fun y => hpx_dr1 (none (Or.inl ?_))⟩⟩⟩⟩⟩
  · have b1 : (1 : Int32) ≤ p1 := Int32.not_lt.mp h1
    have b2 : p1 ≤ 40 := Int32.not_lt.mp h2
    have b3 : (0 : Int32) ≤ p2 := Int32.not_lt.mp h3
    have b4 : p2 ≤ 2 := Int32.not_lt.mp h4
    have q1 : (1 : Int32).toInt ≤ p1.toInt := Int32.le_iff_toInt_le.mp b1
    have q1 : (1 : Int) ≤ p1.toInt := q1
    have q2 : p1.toInt ≤ (40 : Int32).toInt := Int32.le_iff_toInt_le.mp b2
    have q2 : p1.toInt ≤ (40 : Int) := q2
    obtain ⟨M, hM40⟩ : ∃ M, M + 1 = p1.toInt.toNat := ⟨p1.toInt.toNat - 1, by omega⟩
    have eM : p1 = nI (M + 1) := by
      refine Int32.toInt_inj.mp ?_
      rw [nI_toInt (by omega)]
      omega
    have nc : c ≠ 0 := fun y => nz (by show tx.1 4 = 0; rw [hE.1, y]; rfl)
    obtain ⟨F, hF⟩ : ∃ F, hdf L c (fun k => ¬ hm_gone tm k ≠ 0) (M + 1) 61 0 0 x = F := ⟨_, rfl⟩
    refine hpx_dr_go (M := M + 1) (w := p2) (x0 := x) (F := F) hE hL hP (by omega) (fun tx' nx' xx' => ?_) (M + 1) 0 (KA + 1) 64 0 0 x tx _ (by omega) (by omega) rfl gy hx (hdf_64.trans hF) eM rfl gy rfl rfl rfl rfl
    have kx := congrArg (fun q => q.1) nx'
    have hPx : hpX tx' c (hm_par tm) (fun k => hm_gone tm k ≠ 0) := hpX_N nx' hP
    obtain ⟨nh, e4, hHx⟩ := hH
    have h6 := hhX_fr hHx (congrArg (fun q => q.1.2.1) kx) (congrArg (fun q => q.1.2.2.1) kx) (congrArg (fun q => q.2.1.2.2.2.1) kx) (congrArg (fun q => q.2.2.2.2.2) kx)
    have j6 : tx'.2.1 6 = tx.2.1 6 := congrArg (fun q => q.1.2.2.2) kx
    have r6 : tx'.2.2.1 10 = tx.2.2.1 10 := congrArg (fun q => q.2.1.2.2.2.2) kx
    refine hmx_drawn0 ⟨fun y => absurd y (by rw [hM.1]; intro q; exact nc ((nI_eq (a := c) (b := 0) (by omega) (by omega)).mp q)), fun _ => ?_⟩
    refine hm_in (by omega) ⟨fun y => absurd y (by rw [if_pos ⟨b1, b2⟩]; decide), fun _ => ?_⟩
    refine hm_in (by omega) ⟨fun _ => ?_, fun y => absurd y (by rw [if_pos ⟨b3, b4⟩]; decide)⟩
    refine hmx_dr2 ?_
    refine hmx_save_go (M := 50000) (w := p1) (w2 := p2) (Q := fun r2 tm' => hda p2 F = r2 ∧ hPJ tx' tm' c ∧ hHJ tx' tm' c ∧ hKJ tx' tm' c) hM hL (fun K' S li' k1 hS a1 a2 => ?_) c 0 (KA + 1) _ _ (by omega) (by omega) rfl rfl rfl (fun k hk => absurd hk (by omega))
    refine hmx_dr_go (t0 := sA tm 13 S) (M := M + 1) (w := p2) (x0 := x) (F := F) hM hL (by omega) (fun t' P hk ex hP13 => ⟨rfl, ?_, ⟨nh, ?_, ?_⟩, ?_⟩) (M + 1) 0 K' 61 0 0 x _ _ (by omega) (by omega) rfl gx hx hF (Eq.trans a1 eM) a2 gx rfl rfl rfl rfl
    · refine hpX_ext hPx (fun k hk' => (hP13 k hk').trans (hS k hk')) (fun k _ => ?_)
      have e : t'.2.2.1 5 = tm.2.2.1 5 := congrArg (fun q => q.2.1.2.2.1) hk
      show t'.2.2.1 5 k ≠ 0 ↔ tm.2.2.1 5 k ≠ 0
      rw [e]
    · exact (congrArg (fun q => q.1.2) hk).trans e4
    · have e : t'.2.2.1 8 = tm.2.2.1 8 := congrArg (fun q => q.2.1.2.2.2) hk
      refine hhX_ext h6 (fun i hi k _ => ?_)
      show t'.2.2.1 8 (120 * i + k) = tm.2.2.1 8 (120 * i + k) ∧ (t'.2.2.1 8 (120 * i + 60 + k) = 1 ↔ tm.2.2.1 8 (120 * i + 60 + k) = 1)
      rw [e]
      exact ⟨rfl, Iff.rfl⟩
    · exact hKJ_fr hK j6 r6 (congrArg (fun q => q.2.2.2.1) hk) (congrArg (fun q => q.2.2.2.2) hk)
  · have y : tx.1 4 = 0 := y
    rw [hE.1] at y
    exact (nI_eq (a := c) (b := 0) (by omega) (by omega)).mp y
