/-! ===== the class: torsion by SIGNS, DIM 0 to 2 and 4; what is left: DIM 3 (tables of DIM 4), and INCIDENCES ===== -/
theorem hc_minor0 {t : XT} {z : Int32} {m d : Nat} {s : Int64} (hI : hx_inv t z m) (hS : hc_sh t) (hd : d < 3) : hx_minor t s (nI (d + 1)) 0 z m 8000 := by
  intro K Q hK h1 _
  have hp : ∀ i : Nat, cp (hb (s &&& t.2.2.2 2 (d + 1))) 64 + cp (hb (s &&& t.2.2.2 2 d)) 64 ≤ 60 → i < cp (hb (s &&& t.2.2.2 2 (d + 1))) 64 → i < cp (hb (s &&& t.2.2.2 2 d)) 64 → ((d + 2 : Nat) : Int) ^ i * ((d + 2 : Nat) : Int) ≤ 2305843009213693952 := by
    intro i h ha hb
    have hi : i < 30 := by omega
    rcases (show d = 0 ∨ d = 1 ∨ d = 2 by omega) with rfl | rfl | rfl
    · exact hc_pw2 i hi
    · exact hc_pw3 i hi
    · exact hc_pw4 i hi
  exact hc_rank0 hI hS (by omega) hp hK (fun r t' hr i _ p => h1 r t' hr i p)
/-- a table of DIM 5 there is none -/
theorem hc_minor5 {t : XT} {z : Int32} {m : Nat} {s : Int64} {f : Int32} (hI : hx_inv t z m) : hx_minor t s (nI 5) f z m 2 := by
  intro K Q hK _ h0
  obtain ⟨K, rfl⟩ : ∃ K', K = K' + 2 := ⟨K - 2, by omega⟩
  show wbX0_rankOf_0 (wpX0_rankOf (K + 1)) (K + 1) t (uI (uI (fun _ => 0) 3 (nI 5)) 4 f) (uI (fun _ => 0) 1 s) Q
  have out : ∀ (li : Nat → Int32) (lj : Nat → Int64), wpX0_rankOf (K + 1) 1 t li lj Q := fun li lj => h0 t hI
  exact ⟨fun _ => out _ _, fun _ => ⟨fun x => absurd (show nI 5 < nI 5 from x) (by decide), fun _ => out _ _⟩⟩
theorem hx_minor_up {t : XT} {s : Int64} {d f z : Int32} {m K0 K1 : Nat} (h : hx_minor t s d f z m K0) (hk : K0 ≤ K1) : hx_minor t s d f z m K1 :=
  fun K Q hK h1 h0 => h K Q (Nat.le_trans hk hK) h1 h0
/-- what torsion of the class still wants of a state: tables of DIM 4 by SIGNS, all tables by INCIDENCES -/
def hc_left (t : XT) (z : Int32) (m K0 : Nat) : Prop := (∀ s, hx_minor t s (nI 4) 0 z m K0) ∧ ∀ s d, d < 4 → hx_minor t s (nI (d + 1)) 1 z m K0
theorem hc_torsion {t : XT} {z : Int32} {m K K0 : Nat} {a b c : Int32} {Q : Int64 → XT → Prop} (hI : hx_inv t z m) (hS : hc_sh t) (hL : hc_left t z m K0) (hK : 36000 + K0 ≤ K) (hQ : ∀ r t', hx_inv t' z m → Q r t') : wqX11_torsion K t a b c Q := by
  obtain ⟨K, rfl⟩ : ∃ K', K = K' + 2 := ⟨K - 2, by omega⟩
  have hP : ∀ (s : Int64) (e : Nat) (f : Int32), e < 5 → (f = 0 ∨ f = 1) → hx_minor t s (nI e + 1) f z m (K0 + 8000) := by
    intro s e f he hf
    rw [show nI e + 1 = nI (e + 1) from nI_1 e]
    rcases (show e = 4 ∨ e = 3 ∨ e < 3 by omega) with rfl | rfl | h3
    · exact hx_minor_up (hc_minor5 hI) (by omega)
    · rcases hf with rfl | rfl
      · exact hx_minor_up (hL.1 s) (by omega)
      · exact hx_minor_up (hL.2 s 3 (by omega)) (by omega)
    · rcases hf with rfl | rfl
      · exact hx_minor_up (hc_minor0 hI hS h3) (by omega)
      · exact hx_minor_up (hL.2 s e (by omega)) (by omega)
  have out : wpX11_torsion (K + 1) 1 t (uI (uI (uI (fun _ => 0) 1 a) 2 b) 3 c) (fun _ => 0) Q := hQ _ t hI
  have two : ∀ (e : Nat) (li : Nat → Int32) (lj : Nat → Int64), e < 5 → (-1 : Int32) ≤ b → li 2 = b → li 102 = nI e → (li 103 = 0 ∨ li 103 = 1) → wpX11_torsion (K + 1) 2 t li lj Q := by
    intro e li lj he h1 e2 e102 e103
    show wbX11_torsion_2 (wpX11_torsion K) K t li lj Q
    unfold wbX11_torsion_2
    rw [e2, e102]
    exact hz_torsionsOf (hP _ e _ he e103) (by omega) (fun n t8 hn h8 => ⟨fun h2 => ⟨fun _ => hQ _ t8 h8, fun h3 => ⟨hz_ix (by omega) h1 h2 h3, fun v11 _ => hQ v11 t8 h8⟩⟩, fun _ v12 _ => hQ v12 t8 h8⟩)
  show wbX11_torsion_0 (wpX11_torsion (K + 1)) (K + 1) t (uI (uI (uI (fun _ => 0) 1 a) 2 b) 3 c) (fun _ => 0) Q
  exact hz_isDim (by omega) (fun d hd ea => ⟨fun x => absurd x (by decide), fun _ => ⟨fun _ => out, fun _ => ⟨fun _ => out, fun _ => ⟨fun h1 => hz_basis (by omega) (fun v => ⟨fun _ => two d _ _ hd h1 rfl ea (Or.inl rfl), fun _ => two d _ _ hd h1 rfl ea (Or.inr rfl)⟩), fun _ => out⟩⟩⟩⟩) ⟨fun _ => out, fun x => absurd rfl x⟩
theorem hd_torsion {t : XT} {z : Nat} {p1 p2 p3 : Int32} (K0 : Nat) (h : hd t z) (hL : ∀ m, hx_inv t (nI z) m → hc_left t (nI z) m K0) : ∃ k, wqX11_torsion k t p1 p2 p3 (fun _ t' => hd t' z) := by
  obtain ⟨m, hI, hS⟩ := id h
  obtain ⟨L, hk⟩ : ∃ L, L = 36000 + K0 := ⟨_, rfl⟩
  have w : wqX11_torsion L t p1 p2 p3 (fun _ t' => hx_inv t' (nI z) m) := hc_torsion hI hS (hL m hI) (by omega) (fun r t' i => i)
  exact ⟨L, wcX11_torsion hc_kp hS w (fun r t' i s => ⟨m, i, s⟩)⟩
