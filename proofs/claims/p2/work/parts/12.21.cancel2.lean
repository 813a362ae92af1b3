/-! ===== reference, pure: cancel ===== -/
theorem hq_cancel {t : XT} {m n K : Nat} {a b : Int32} {Q : Int32 → XT → Prop} (hI : hq_inv t m n) (hK : 90000 ≤ K) (hQ : ∀ r t' n', hq_key t' = hq_key t → hq_inv t' m n' → Q r t') : wqX12_cancel K t a b Q := by
  obtain ⟨K, rfl⟩ : ∃ K', K = K' + 1 := ⟨K - 1, by omega⟩
  have hm := hI.1
  have hm60 := hI.2.1
  have hM := hI.2.2.2.1
  have hA := hI.2.2.2.2.1
  show wbX12_cancel_0 (wpX12_cancel K) K t (uI (uI (fun _ => 0) 1 a) 2 b) (fun _ => 0) Q
  refine hq_areEnds (a := a) (b := b) hm hm60 (by omega) (fun s e hs he ea eb cs ce _ => ⟨fun _ => ?_, fun x => absurd x (by decide)⟩) ⟨fun x => absurd rfl x, fun _ => hQ _ t n rfl hI⟩
  subst ea
  subst eb
  refine hq_waysFrom2 hm hm60 hM hA hs he (by omega) (fun W G A hF v4 e4 => ⟨fun y => ?_, fun _ => hQ _ _ n rfl (hq_frame (t := t) rfl rfl rfl rfl rfl rfl hI)⟩)
  have tl : hq_tot t m 60 s A ≤ hm_sum A m := hq_tot_le
  have hS := hF.2.1
  have p62 : (2 : Nat) ^ 60 < 2 ^ 63 := by decide
  have N1 : hq_tot t m 60 s A = 1 := by
    rw [e4] at y
    have z : lN (hq_tot t m 60 s A) = 1 := (hs_cmp0 _ _).mp y
    have w := congrArg Int64.toInt z
    rw [pk_lT (by omega)] at w
    have one : (1 : Int64).toInt = 1 := by decide
    rw [one] at w
    omega
  have tot' : ∀ W' A', hq_full t m e W' A' → hq_tot t m 60 s A' = 1 := by
    intro W' A' hF'
    have q := hq_full_eq hm60 hM hA hF hF'
    rw [← N1]
    refine hq_sum_eq m (fun g hg => ?_)
    show hq_sel (g ≠ 60 ∧ hm_faceT t g s) (A' g) = hq_sel (g ≠ 60 ∧ hm_faceT t g s) (A g)
    rw [q g hg]
  show wqX12_laysPath K (hq_w t W G) (nI s) (nI e) (lN 0) _
  refine hq_laysPath (t := hq_w t W G) (x := 0) hm hm60 hM hA hs he ce.2 (by decide) (by omega) (fun W' G' A' R k hF' hk hpth => ?_) (fun W' G' A' hF' no => ?_)
  · have hI6 : hq_inv (hq_r (hq_w (hq_w t W G) W' G') R (2 * k + 2)) m n := hq_frame (t := t) rfl rfl rfl rfl rfl rfl hI
    refine hq_remembers (t := hq_r (hq_w (hq_w t W G) W' G') R (2 * k + 2)) hI6.2.2.2.2.2.2.1 hI6.2.2.2.2.2.1 (by omega) (fun P8 n' hP => ?_)
    have hI7 := hq_push_inv hI6 hP
    obtain ⟨F, P, hp, fk, rk, fek⟩ := hpth
    obtain ⟨t7, e7⟩ : ∃ t7, t7 = sI (sA (hq_r (hq_w (hq_w t W G) W' G') R (2 * k + 2)) 8 P8) 4 (nI n') := ⟨_, rfl⟩
    have i5 : t7.1 5 = nI (2 * k + 2) := by rw [e7]; rfl
    have i10 : t7.2.2.1 10 = R := by rw [e7]; rfl
    have i3 : t7.1 3 = nI m := by rw [e7]; exact hm
    have ik : hq_key t7 = hq_key t := by rw [e7]; rfl
    have hp7 : hq_pp t7 m s R k F P := by rw [e7]; exact hp
    have cs7 : hm_crit t7 s := by rw [e7]; exact cs
    have ce7 : hm_crit t7 e := by rw [e7]; exact ce
    have hF7 : hq_full t7 m e W' A' := by rw [e7]; exact hF'
    have N7 : hq_tot t7 m 60 s A' = 1 := by rw [e7]; exact tot' W' A' hF'
    have fe7 : hm_faceT t7 e (P k) := by rw [e7]; exact fek
    rw [← e7] at hI7 ⊢
    have PX : ∀ i, i ≤ k → P i < 60 ∧ F i < 60 ∧ R (2 * i) = nI (P i) ∧ R (2 * i + 1) = nI (F i) := by
      intro i hi
      obtain ⟨a1, a2⟩ := hp.2.1 i hi
      by_cases x : i = k
      · subst x
        exact ⟨by omega, by rw [fk]; omega, a2, by rw [fk]; exact rk⟩
      · obtain ⟨b1, b2, _⟩ := hp.2.2.1 i (by omega)
        exact ⟨by omega, by omega, a2, b2⟩
    have hX : ∀ i, i < 2 * k + 2 → hq_X F P i < 60 ∧ R i = nI (hq_X F P i) := by
      intro i hi
      obtain ⟨a1, a2, a3, a4⟩ := PX (i / 2) (by omega)
      unfold hq_X
      by_cases x : i % 2 = 0
      · rw [if_pos x]
        rw [show 2 * (i / 2) = i by omega] at a3
        exact ⟨a1, a3⟩
      · rw [if_neg x]
        rw [show 2 * (i / 2) + 1 = i by omega] at a4
        exact ⟨a2, a4⟩
    obtain ⟨L, hL⟩ : ∃ L, L = 1000 := ⟨_, rfl⟩
    have g := hq_can_off (t := t7) (m := m) (X := hq_X F P) (R := R) (lj := fun _ => 0) (Q := Q) i5 hk i10 hX L (fun K' li' h1 e3 => ?_) (2 * k + 2) 0 K (uI (uI (uI (fun _ => 0) 1 (nI s)) 2 (nI e)) 3 0) (by omega) (by omega) rfl
    · have z : sA t7 4 (hq_off (t7.2.2.1 4) (hq_X F P) 0) = t7 := hm_sA0 t7 4
      rw [z] at g
      exact g
    · refine hq_can_turn (t := t7) (q := hq_off (t7.2.2.1 4) (hq_X F P) (2 * k + 2)) (R := R) i3 hm60 i5 hk i10 PX (fun r => ?_) (k + 1) 0 K' li' (by omega) (by omega) e3
      refine hQ r _ n' ik (hq_turned hI7 hs he cs7 ce7 hF7 N7 (by omega) hp7 fk fe7 (fun j hj off => ?_))
      refine hq_off_at (2 * k + 2) (fun i hi => ?_)
      unfold hq_X
      by_cases x : i % 2 = 0
      · rw [if_pos x]; exact (off (i / 2) (by omega)).1
      · rw [if_neg x]; exact (off (i / 2) (by omega)).2
  · have w := tot' W' A' hF'
    have no : ¬ 0 < hq_tot t m 60 s A' := no
    omega
