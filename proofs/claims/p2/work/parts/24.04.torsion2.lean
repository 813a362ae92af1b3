/-! ===== the class: torsion, whole ===== -/
theorem ho_minor {t : XT} {z : Int32} {m : Nat} (hI : hx_inv t z m) (hS : h5_s t) (h6 : h6_s t) (hT : t.1 7 = t.1 5 → ht_topo t) (s : Int64) (e : Nat) (f : Int32) (he : e < 5) (hf : f = 0 ∨ f = 1 ∧ ∀ k, k < 64 → hb s k = true → t.2.2.1 5 k = -1) : hx_minor t s (nI e + 1) f z m 20000 := by
  rw [show nI e + 1 = nI (e + 1) from nI_1 e]
  rcases (show e = 4 ∨ e = 3 ∨ e < 3 by omega) with rfl | rfl | h3
  · exact hx_minor_up (hc_minor5 hI) (by omega)
  · rcases hf with rfl | ⟨rfl, hs⟩
    · exact hx_minor_up (h5_minor hI hS) (by omega)
    · exact hx_minor_up (hj_minor (d := 3) hI hS h6 hT (by omega) hs) (by omega)
  · rcases hf with rfl | ⟨rfl, hs⟩
    · exact hx_minor_up (hc_minor0 hI hS.1 h3) (by omega)
    · exact hx_minor_up (hj_minor (d := e) hI hS h6 hT (by omega) hs) (by omega)
theorem ho_basis {t : XT} {K : Nat} {c : Int32} {Q : Int64 → XT → Prop} (h0 : ¬ c = 1 → ∀ v, Q v t) (h1 : c = 1 → ∀ v, (∀ k, k < 64 → hb v k = true → hb (t.2.1 1) k = false ∧ hb (t.2.1 2) k = false) → Q v t) : wqX11_basis (K + 2) t c Q := by
  show wbX11_basis_0 (wpX11_basis (K + 1)) (K + 1) t (uI (fun _ => 0) 1 c) (fun _ => 0) Q
  refine ⟨fun ne => h0 ne _, fun eq => ?_⟩
  intro v1 e1 v2 e2 v3 e3
  refine h1 eq v3 (fun k hk hb' => ?_)
  rw [e3, hb_and, e2, hb_not v1 hk, e1, hb_or, Bool.and_eq_true] at hb'
  have q := hb'.2
  cases y : hb (t.2.1 1) k with
  | true => rw [y, Bool.true_or] at q; exact absurd q (by decide)
  | false =>
    cases z : hb (t.2.1 2) k with
    | true => rw [y, z] at q; exact absurd q (by decide)
    | false => exact ⟨rfl, rfl⟩
theorem ho_tor {t : XT} {z : Int32} {m K : Nat} {a b c : Int32} {Q : Int64 → XT → Prop} (hI : hx_inv t z m) (hS : h5_s t) (h6 : h6_s t) (hT : t.1 7 = t.1 5 → ht_topo t) (gb : hn_b t) (hK : 60000 ≤ K) (hQ : ∀ r t', hx_inv t' z m → Q r t') : wqX11_torsion K t a b c Q := by
  obtain ⟨K, rfl⟩ : ∃ K', K = K' + 3 := ⟨K - 3, by omega⟩
  have out : wpX11_torsion (K + 2) 1 t (uI (uI (uI (fun _ => 0) 1 a) 2 b) 3 c) (fun _ => 0) Q := hQ _ t hI
  have two : ∀ (e : Nat) (li : Nat → Int32) (lj : Nat → Int64), e < 5 → (-1 : Int32) ≤ b → li 2 = b → li 102 = nI e → (li 103 = 0 ∨ li 103 = 1 ∧ ∀ k, k < 64 → hb (lj 101) k = true → t.2.2.1 5 k = -1) → wpX11_torsion (K + 2) 2 t li lj Q := by
    intro e li lj he h1 e2 e102 e103
    show wbX11_torsion_2 (wpX11_torsion (K + 1)) (K + 1) t li lj Q
    unfold wbX11_torsion_2
    rw [e2, e102]
    exact hz_torsionsOf (ho_minor hI hS h6 hT _ e _ he e103) (by omega) (fun n t8 hn h8 => ⟨fun h2 => ⟨fun _ => hQ _ t8 h8, fun h3 => ⟨hz_ix (by omega) h1 h2 h3, fun v11 _ => hQ v11 t8 h8⟩⟩, fun _ v12 _ => hQ v12 t8 h8⟩)
  show wbX11_torsion_0 (wpX11_torsion (K + 2)) (K + 2) t (uI (uI (uI (fun _ => 0) 1 a) 2 b) 3 c) (fun _ => 0) Q
  refine hz_isDim (by omega) (fun d hd ea => ⟨fun x => absurd x (by decide), fun _ => ⟨fun _ => out, fun _ => ⟨fun _ => out, fun _ => ⟨fun h1 => ?_, fun _ => out⟩⟩⟩⟩) ⟨fun _ => out, fun x => absurd rfl x⟩
  have ea : a = nI d := ea
  refine ho_basis (fun ne v => ⟨fun _ => two d _ _ hd h1 rfl ea (Or.inl rfl), fun e => absurd e ne⟩) (fun eq v hv => ⟨fun ne => absurd eq ne, fun _ => two d _ _ hd h1 rfl ea (Or.inr ⟨rfl, fun k hk hb' => ?_⟩)⟩)
  obtain ⟨y1, y2⟩ := hv k hk hb'
  rcases gb k hk with y | y | y
  · exact y
  · rw [y] at y1; exact absurd y1 (by decide)
  · rw [y] at y2; exact absurd y2 (by decide)
theorem ho_torsion {t : XT} {n z : Nat} {p1 p2 p3 : Int32} (h : ho (n + 1) t z) : ∃ k, wqX11_torsion k t p1 p2 p3 (fun _ t' => ho n t' z) := by
  obtain ⟨m, hI, hS, h6, b, hb, g⟩ := id h
  obtain ⟨L, hL⟩ : ∃ L, L = 100000 := ⟨_, rfl⟩
  have w : wqX11_torsion L t p1 p2 p3 (fun _ t' => hx_inv t' (nI z) m) := ho_tor hI hS h6 (hn_fresh g (ho_b0 hb)) g.2.1 (by omega) (fun r t' i => i)
  exact ⟨300 + L, ncX11_torsion (Nat.le_refl 300) (ho_b0 hb) g (wgX11_torsion h6_kp h6 (wgX11_torsion h5_kp hS w)) (fun r t' i g' => ⟨m, i.1.1, i.1.2, i.2, _, ho_st hb (by omega), g'⟩)⟩
theorem ho_0 : ho 513 tx0 0 := by
  obtain ⟨m, hI, hS⟩ := he_0
  obtain rfl : 0 = m := (nI_eq (a := 0) (b := m) (by omega) (by have := hI.2.2.1; omega)).mp hI.2.1
  have z : ∀ k x, hb (tx0.2.2.2 0 k) x = false := fun k x => hb_0 x
  refine ⟨0, hI, hS, ⟨⟨fun k x _ h => absurd ((z k x).symm.trans h) (by decide), fun k _ => ?_⟩, 0, by omega, rfl, fun k x _ h => absurd ((z k x).symm.trans h) (by decide)⟩, 0, by unfold ho_k; decide, ⟨0, rfl, by omega, fun k _ => Or.inl rfl⟩, fun k _ => Or.inl rfl, 0, Nat.le_refl 0, rfl, Or.inl rfl⟩
  rw [cp_64 (P := hb (tx0.2.2.2 0 k)) (m := 0) (by omega) (fun x _ => z k x)]
  exact Nat.zero_le _
