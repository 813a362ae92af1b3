/-! ===== the class: complex lays all of it anew ===== -/
theorem h6_s_fr {t t' : XT} (h : h6_s t) (e4 : t'.1 4 = t.1 4) (e3 : t'.2.2.1 3 = t.2.2.1 3) (e0 : t'.2.2.2 0 = t.2.2.2 0) : h6_s t' := by
  obtain ⟨a, m, b1, b2, b3⟩ := h
  exact ⟨hj_F a e3 e0, m, b1, e4.trans b2, by rw [e0]; exact b3⟩
theorem h6_kp : kp h6_s :=
  ⟨fun u i v hi h => h6_s_fr h (hc_uI u.1 v hi) rfl rfl, fun u i v h => h6_s_fr h rfl rfl rfl, fun u i f h2 h3 h4 h => h6_s_fr h rfl (hc_uI u.2.2.1 f h3) rfl, fun u i f h0 h1 h2 h => h6_s_fr h rfl rfl (hc_uI u.2.2.2 f h0)⟩
theorem h6_s_b {t : XT} {z : Int32} {m : Nat} (hI : hx_inv t z m) (hB : h6_b t m) : h6_s t := by
  obtain ⟨⟨bA, bO, bZ, bN⟩, b6N, b6A⟩ := hB
  have m60 := hI.2.2.1
  have lt : ∀ k x, k < 64 → hb (t.2.2.2 0 k) x = true → k < m := by
    intro k x hk hx
    refine Nat.lt_of_not_le (fun q => ?_)
    rw [bZ k x q hk] at hx; exact absurd hx (by decide)
  have lo : ∀ k x, k < 64 → hb (t.2.2.2 0 k) x = true → x < k := by
    intro k x hk hx
    obtain ⟨_, _, _, _, _, _, _, _, q5⟩ := bA k (lt k x hk hx)
    exact (q5 x hx).1
  refine ⟨⟨fun k x hk hx => ⟨lo k x hk hx, ?_⟩, fun k hk => ?_⟩, m, m60, hI.2.1, lt⟩
  · exact b6A k x (lt k x hk hx) hx
  · by_cases y : k < m
    · obtain ⟨d, hd, _, hc⟩ := hc_deg (bA k y)
      rw [cp_64 (m := k) (by omega) (fun x hx => by
        cases q : hb (t.2.2.2 0 k) x with
        | false => rfl
        | true => have := lo k x hk q; omega)]
      omega
    · have := cp_64 (P := hb (t.2.2.2 0 k)) (m := 0) (by omega) (fun x _ => by
        cases q : hb (t.2.2.2 0 k) x with
        | false => rfl
        | true => have := lt k x hk q; omega)
      rw [this]; exact Nat.zero_le _
/-- behind build and restart -/
theorem hk_complex {t : XT} {y m b h K : Nat} {Q : Int32 → XT → Prop} (hh : 300 ≤ h) (hI : hx_inv t (nI y) m) (hS : h5_s t) (h6 : h6_s t) (g : hn b t) (hb' : b + 1 < 2147483648) (hy : y ≤ 160) (hK : 5000 ≤ K) (hQ : ∀ r m' t', hx_inv t' (nI 0) m' → h5_s t' → h6_s t' → hn (b + 1) t' → Q r t') : wqX11_complex (h + K) t Q := by
  obtain ⟨K, rfl⟩ : ∃ K', K = K' + 1 := ⟨K - 1, by omega⟩
  show wbX11_complex_0 (wpX11_complex (h + K)) (h + K) t (fun _ => 0) (fun _ => 0) Q
  have rd : wqX8_read_c1 K t (fun _ t1 => ∃ p1, hx_rc t1 y m p1) := hy_read hI hy (by omega) (fun r1 p1 t1 h1 => ⟨p1, h1⟩)
  refine ncX8_read_c1 hh (by omega) g (wgX8_read_c1 h6_kp h6 (wgX8_read_c1 h5_kp hS rd)) (fun r1 t1 h1 g1 t2 e2 => ?_)
  obtain ⟨⟨⟨p1, h1, c1⟩, s1⟩, s1'⟩ := h1
  have h2 : hx_inv t2 (nI 0) m := by
    obtain ⟨a1, a2, a3, a4, a5, a6, a7, a8, a9, a10, a11⟩ := h1.1
    subst e2
    exact ⟨rfl, a2, a3, a4, a5, a6, a7, a8, a9, a10, a11⟩
  have s2 : h5_s t2 := by rw [e2]; exact h5_kp.1 _ _ _ (by decide) s1
  have s2' : h6_s t2 := by rw [e2]; exact h6_kp.1 _ _ _ (by decide) s1'
  have g2 : hn b t2 := by rw [e2]; exact hn_I (by decide) (by decide) (by decide) (by decide) g1
  have c2 : hx_cl (t2.2.2.1 1) := by rw [e2]; exact c1
  obtain ⟨_, _, c, cb, cc, ca⟩ := id g2
  refine ⟨fun _ => ?_, fun _ v9 _ => hQ v9 m t2 h2 s2 s2' (hn_mono (by omega) g2)⟩
  have bA : wqX9_build_c13 (h + K) t2 (fun t' => ∃ m', hx_inv t' (nI 0) m' ∧ h5_s t') := h5_build h2 c2 (by omega) (fun m' t' i s => ⟨m', i, s⟩)
  have bB : wqX9_build_c13 (h + K) t2 (fun t' => ∃ m', hx_inv t' (nI 0) m' ∧ h6_b t' m') := h6_build h2 (by omega) (fun m' t' i s => ⟨m', i, s⟩)
  have k5 : kp5 (fun u => u.1 5 = t2.1 5 ∧ u.1 7 = t2.1 7) := ⟨fun u i v h5 h7 w => ⟨(ht_nI u i v h5.symm).trans w.1, (ht_nI u i v h7.symm).trans w.2⟩, fun _ _ _ w => w, fun _ _ _ w => w, fun _ _ _ w => w⟩
  refine wvX9_build_c13 k5 ⟨rfl, rfl⟩ (wjX9_build_c13 bA bB) (fun t4 hAB g45 => ?_)
  obtain ⟨⟨m4, h4, b4⟩, m4', h4', b4'⟩ := hAB
  have s4 := h6_s_b h4' b4'
  refine hz_all (by omega) (fun v => ?_)
  obtain ⟨K, rfl⟩ : ∃ K', K = K' + 1 := ⟨K - 1, by omega⟩
  show wbX6_restart_0 (wpX6_restart (h + K)) (h + K) t4 (fun _ => 0) (uI (fun _ => 0) 1 v) _
  intro u1 f1 u2 f2 u3 f3 u4 f4 v5 f5 u6 f6 t7 e7
  show wbX4_forget_0 (wpX4_forget (h + K)) (h + K) t7 (fun _ => 0) (fun _ => 0) _
  intro t8 e8
  have f6 : u6 = sI u4 5 v5 := f6
  have f5 : v5 = u4.1 5 + 1 := f5
  have f4 : u4 = sJ u3 2 0 := f4
  have f3 : u3 = sJ u2 1 0 := f3
  have f2 : u2 = sJ u1 0 v := f2
  have f1 : u1 = sA t4 5 (fun _ => -1) := f1
  have e8 : t8 = sJ t7 6 0 := e8
  have e7 : t7 = sI u6 8 0 := e7
  subst e8 e7 f6 f5 f4 f3 f2 f1
  refine hQ _ m4 _ (hx_frame h4 rfl rfl rfl rfl rfl rfl (fun _ _ => Or.inl rfl) rfl rfl rfl rfl) ?_ ?_ ?_
  · exact h5_kp.2.1 _ _ _ (h5_kp.1 _ _ _ (by decide) (h5_kp.1 _ _ _ (by decide) (h5_kp.2.1 _ _ _ (h5_kp.2.1 _ _ _ (h5_kp.2.1 _ _ _ (h5_kp.2.2.1 _ _ _ (by decide) (by decide) (by decide) b4))))))
  · exact h6_kp.2.1 _ _ _ (h6_kp.1 _ _ _ (by decide) (h6_kp.1 _ _ _ (by decide) (h6_kp.2.1 _ _ _ (h6_kp.2.1 _ _ _ (h6_kp.2.1 _ _ _ (h6_kp.2.2.1 _ _ _ (by decide) (by decide) (by decide) s4))))))
  · refine ⟨⟨m4, h4.2.1, h4.2.2.1, fun _ _ => Or.inl rfl⟩, fun _ _ => Or.inl rfl, c + 1, by omega, ?_, ?_⟩
    · show t4.1 5 + 1 = nI (c + 1)
      rw [g45.1, cc]; exact nI_1 c
    · show t4.1 7 = -1 ∨ ∃ a, a ≤ c + 1 ∧ t4.1 7 = nI a ∧ (a = c + 1 → _)
      rw [g45.2]
      rcases ca with z | ⟨a, q1, q2, q3⟩
      · exact Or.inl z
      · exact Or.inr ⟨a, by omega, q2, fun e => absurd e (by omega)⟩
