/-! ===== the class: HEIGHTS that are fresh stand as they must; kept (turned from 23.11) ===== -/
def hN (b : Nat) (t : XT) : Prop := (∃ m, hy_t t m) ∧ hn_b t ∧ ∃ c, c ≤ b ∧ t.1 5 = nI c ∧ (t.1 7 = -1 ∨ ∃ a, a ≤ c ∧ t.1 7 = nI a ∧ (a = c → hT_l t))
theorem hN_mono {b c : Nat} {t : XT} (h : b ≤ c) (g : hN b t) : hN c t := by
  obtain ⟨g1, g2, x, g3, g4⟩ := g
  exact ⟨g1, g2, x, by omega, g4⟩
theorem hN_fresh {b : Nat} {t : XT} (g : hN b t) (hb' : b < 2147483648) (e : t.1 7 = t.1 5) : hT_l t := by
  obtain ⟨_, _, c, c1, c2, c3⟩ := g
  rcases c3 with z | ⟨a, a1, a2, a3⟩
  · have w := congrArg Int32.toInt (z.symm.trans (e.trans c2))
    rw [nI_toInt (by omega)] at w
    have w : (-1 : Int) = (c : Int) := w
    omega
  · exact a3 ((nI_eq (by omega) (by omega)).mp (a2.symm.trans (e.trans c2)))
theorem hN_fr {b : Nat} {t t' : XT} (g : hN b t) (e4 : t'.1 4 = t.1 4) (e5 : t'.1 5 = t.1 5) (e6 : t'.1 6 = t.1 6) (e7 : t'.1 7 = t.1 7) (j0 : t'.2.1 0 = t.2.1 0) (j1 : t'.2.1 1 = t.2.1 1) (j2 : t'.2.1 2 = t.2.1 2) (a5 : t'.2.2.1 5 = t.2.2.1 5) (a6 : t'.2.2.1 6 = t.2.2.1 6) (a7 : t'.2.2.1 7 = t.2.2.1 7) (b0 : t'.2.2.2 0 = t.2.2.2 0) : hN b t' := by
  obtain ⟨⟨m, m1, m2, m3⟩, g2, c, c1, c2, c3⟩ := g
  refine ⟨⟨m, e4.trans m1, m2, by rw [a5]; exact m3⟩, by unfold hn_b; rw [a5, j1, j2]; exact g2, c, c1, e5.trans c2, ?_⟩
  rcases c3 with z | ⟨a, q1, q2, q3⟩
  · exact Or.inl (e7.trans z)
  · exact Or.inr ⟨a, q1, e7.trans q2, fun e => hT_l_fr (q3 e) e4 e6 j0 a5 a6 a7 b0⟩
theorem hN_I {b i : Nat} {t : XT} {v : Int32} (h4 : i ≠ 4) (h5 : i ≠ 5) (h6 : i ≠ 6) (h7 : i ≠ 7) (g : hN b t) : hN b (sI t i v) :=
  hN_fr g (ht_nI t i v h4.symm) (ht_nI t i v h5.symm) (ht_nI t i v h6.symm) (ht_nI t i v h7.symm) rfl rfl rfl rfl rfl rfl rfl
theorem hN_J {b i : Nat} {t : XT} {v : Int64} (h0 : i ≠ 0) (h1 : i ≠ 1) (h2 : i ≠ 2) (g : hN b t) : hN b (sJ t i v) :=
  hN_fr g rfl rfl rfl rfl (uI_ne t.2.1 v h0.symm) (uI_ne t.2.1 v h1.symm) (uI_ne t.2.1 v h2.symm) rfl rfl rfl rfl
theorem hN_A {b i : Nat} {t : XT} {f : Nat → Int32} (h5 : i ≠ 5) (h6 : i ≠ 6) (h7 : i ≠ 7) (g : hN b t) : hN b (sA t i f) :=
  hN_fr g rfl rfl rfl rfl rfl rfl rfl (ht_nA t i f h5.symm) (ht_nA t i f h6.symm) (ht_nA t i f h7.symm) rfl
theorem hN_B {b i : Nat} {t : XT} {f : Nat → Int64} (h0 : i ≠ 0) (g : hN b t) : hN b (sB t i f) :=
  hN_fr g rfl rfl rfl rfl rfl rfl rfl rfl rfl rfl (uI_ne t.2.2.2 f h0.symm)
/-- behind a change -/
theorem hN_ch {b : Nat} {t t' : XT} (g : hN b t) (e4 : t'.1 4 = t.1 4) (e5 : t'.1 5 = t.1 5 + 1) (e7 : t'.1 7 = t.1 7) (hp : ∀ k, k < 64 → hx_p (t'.2.2.1 5 k)) (hb' : hn_b t') : hN (b + 1) t' := by
  obtain ⟨⟨m, m1, m2, m3⟩, _, c, c1, c2, c3⟩ := g
  refine ⟨⟨m, e4.trans m1, m2, hp⟩, hb', c + 1, by omega, by rw [e5, c2]; exact nI_1 c, ?_⟩
  rcases c3 with z | ⟨a, q1, q2, q3⟩
  · exact Or.inl (e7.trans z)
  · exact Or.inr ⟨a, by omega, e7.trans q2, fun e => absurd e (by omega)⟩
theorem ndX6_restart {h b k : Nat} {t : XT} {a1 : Int64} {Q Q' : XT → Prop} (hh : 300 ≤ h) (hb' : b + 1 < 2147483648) (g : hN b t) (hR : wqX6_restart k t a1 Q) (hQ : ∀ t, Q t → hN (b + 1) t → Q' t) : wqX6_restart (h + k) t a1 Q' := by
  cases k with
  | zero => exact False.elim hR
  | succ k =>
    have hR : wbX6_restart_0 (wpX6_restart k) k t (fun _ => 0) (uI (fun _ => 0) 1 a1) Q := hR
    show wbX6_restart_0 (wpX6_restart (h + k)) (h + k) t (fun _ => 0) (uI (fun _ => 0) 1 a1) Q'
    intro t1 e1 t2 e2 t3 e3 t4 e4 v5 e5 t6 e6
    refine hQ _ (hR t1 e1 t2 e2 t3 e3 t4 e4 v5 e5 t6 e6) ?_
    subst e6 e5 e4 e3 e2 e1
    exact hN_ch g rfl rfl rfl (fun _ _ => Or.inl rfl) (fun _ _ => Or.inl rfl)
theorem ndX6_unite {h b k : Nat} {t : XT} {a1 a2 : Int32} {Q Q' : XT → Prop} (hh : 300 ≤ h) (hb' : b + 1 < 2147483648) (g : hN b t) (hR : wqX6_unite k t a1 a2 Q) (hQ : ∀ t, Q t → hN (b + 1) t → Q' t) : wqX6_unite (h + k) t a1 a2 Q' := by
  cases k with
  | zero => exact False.elim hR
  | succ k =>
    have hR : wbX6_unite_0 (wpX6_unite k) k t (uI (uI (fun _ => 0) 1 a1) 2 a2) (fun _ => 0) Q := hR
    show wbX6_unite_0 (wpX6_unite (h + k)) (h + k) t (uI (uI (fun _ => 0) 1 a1) 2 a2) (fun _ => 0) Q'
    obtain ⟨i1, hR⟩ := hR
    refine ⟨i1, fun t1 e1 => ?_⟩
    obtain ⟨i2, hR⟩ := hR t1 e1
    refine ⟨i2, fun t2 e2 => ?_⟩
    have hR := hR t2 e2
    obtain ⟨f, f64, ef⟩ := hn_vp i1
    obtain ⟨s, s64, es⟩ := hn_vp i2
    have ef : a1 = nI f := ef
    have es : a2 = nI s := es
    subst ef
    subst es
    have cf : (nI f).toNatClampNeg = f := nI_clamp (by omega)
    have cs : (nI s).toNatClampNeg = s := nI_clamp (by omega)
    refine wiX11_bit (wmX11_bit (Nat.le_add_left k h) (fun _ x => x) hR) (hw_bit (k := f) f64 (by omega) (fun v hv => hv)) (fun r3 hR u3 v4 e4 t5 e5 => ?_)
    refine wiX11_bit (wmX11_bit (Nat.le_add_left k h) (fun _ x => x) (hR v4 e4 t5 e5)) (hw_bit (k := s) s64 (by omega) (fun v hv => hv)) (fun r6 hR u6 v7 e7 t8 e8 v9 e9 t10 e10 => ?_)
    refine hQ _ (hR v7 e7 t8 e8 v9 e9 t10 e10) ?_
    have u3 : un r3 = 2 ^ f := u3
    have u6 : un r6 = 2 ^ s := u6
    obtain ⟨⟨m, m1, m2, m3⟩, gb, _⟩ := id g
    have p5 : t10.2.2.1 5 = upd (upd (t.2.2.1 5) f (nI s)) s (nI f) := by
      rw [e10, e8, e5, e2, e1]
      show upd (upd (t.2.2.1 5) (nI f).toNatClampNeg (nI s)) (nI s).toNatClampNeg (nI f) = _
      rw [cf, cs]
    have p1 : t10.2.1 1 = t.2.1 1 ||| r3 := by rw [e10, e8, e5, e4, e2, e1]; rfl
    have p2 : t10.2.1 2 = t.2.1 2 ||| r6 := by rw [e10, e8, e7, e5, e2, e1]; rfl
    refine hN_ch g (by rw [e10, e8, e5, e2, e1]; rfl) (by rw [e10, e9, e8, e5, e2, e1]; rfl) (by rw [e10, e8, e5, e2, e1]; rfl) ?_ (fun x hx => ?_)
    · rw [p5]
      exact hx_upd (hx_upd m3 (Or.inr ⟨s, s64, rfl⟩)) (Or.inr ⟨f, f64, rfl⟩)
    · rw [p5, p1, p2, hb_or, hb_or, hb_one u3, hb_one u6]
      by_cases qs : x = s
      · exact Or.inr (Or.inr (by rw [qs, decide_eq_true rfl, Bool.or_true]))
      · by_cases qf : x = f
        · exact Or.inr (Or.inl (by rw [qf, decide_eq_true rfl, Bool.or_true]))
        · rw [show upd (upd (t.2.2.1 5) f (nI s)) s (nI f) x = t.2.2.1 5 x from (if_neg qs).trans (if_neg qf)]
          rcases gb x hx with z | z | z
          · exact Or.inl z
          · exact Or.inr (Or.inl (by rw [z, Bool.true_or]))
          · exact Or.inr (Or.inr (by rw [z, Bool.true_or]))
theorem ndX6_divide {h b k : Nat} {t : XT} {a1 : Int32} {Q Q' : XT → Prop} (hh : 300 ≤ h) (hb' : b + 1 < 2147483648) (g : hN b t) (hR : wqX6_divide k t a1 Q) (hQ : ∀ t, Q t → hN (b + 1) t → Q' t) : wqX6_divide (h + k) t a1 Q' := by
  cases k with
  | zero => exact False.elim hR
  | succ k =>
    have hR : wbX6_divide_0 (wpX6_divide k) k t (uI (fun _ => 0) 1 a1) (fun _ => 0) Q := hR
    show wbX6_divide_0 (wpX6_divide (h + k)) (h + k) t (uI (fun _ => 0) 1 a1) (fun _ => 0) Q'
    obtain ⟨i1, hR⟩ := hR
    obtain ⟨f, f64, ef⟩ := hn_vp i1
    have ef : a1 = nI f := ef
    subst ef
    have cf : (nI f).toNatClampNeg = f := nI_clamp (by omega)
    refine ⟨i1, fun v1 e1 => ⟨fun ne => ?_, fun z => hQ t ((hR v1 e1).2 z) (hN_mono (by omega) g)⟩⟩
    obtain ⟨i2, hR⟩ := (hR v1 e1).1 ne
    refine ⟨i2, fun t3 e3 => ?_⟩
    obtain ⟨i3, hR⟩ := hR t3 e3
    refine ⟨i3, fun t4 e4 => ?_⟩
    have hR := hR t4 e4
    obtain ⟨s, s64, es⟩ := hn_vp i3
    have es : v1 = nI s := es
    subst es
    have cs : (nI s).toNatClampNeg = s := nI_clamp (by omega)
    refine wiX11_bit (wmX11_bit (Nat.le_add_left k h) (fun _ x => x) hR) (hw_bit (k := f) f64 (by omega) (fun v hv => hv)) (fun r5 hR u5 => ?_)
    refine wiX11_bit (wmX11_bit (Nat.le_add_left k h) (fun _ x => x) hR) (hw_bit (k := s) s64 (by omega) (fun v hv => hv)) (fun r6 hR u6 v7 e7 v8 e8 v9 e9 t10 e10 v11 e11 t12 e12 v13 e13 t14 e14 => ?_)
    refine hQ _ (hR v7 e7 v8 e8 v9 e9 t10 e10 v11 e11 t12 e12 v13 e13 t14 e14) ?_
    have u5 : un r5 = 2 ^ f := u5
    have u6 : un r6 = 2 ^ s := u6
    obtain ⟨⟨m, m1, m2, m3⟩, gb, _⟩ := id g
    have p5 : t14.2.2.1 5 = upd (upd (t.2.2.1 5) f (-1)) s (-1) := by
      rw [e14, e12, e10, e4, e3]
      show upd (upd (t.2.2.1 5) (nI f).toNatClampNeg (-1)) (nI s).toNatClampNeg (-1) = _
      rw [cf, cs]
    have p1 : t14.2.1 1 = t.2.1 1 &&& v8 := by rw [e14, e12, e10, e9, e4, e3]; rfl
    have p2 : t14.2.1 2 = t.2.1 2 &&& v8 := by rw [e14, e12, e11, e10, e4, e3]; rfl
    refine hN_ch g (by rw [e14, e12, e10, e4, e3]; rfl) (by rw [e14, e13, e12, e10, e4, e3]; rfl) (by rw [e14, e12, e10, e4, e3]; rfl) ?_ (fun x hx => ?_)
    · rw [p5]
      exact hx_upd (hx_upd m3 (Or.inl rfl)) (Or.inl rfl)
    · rw [p5, p1, p2, hb_and, hb_and]
      by_cases qs : x = s
      · exact Or.inl (if_pos qs)
      · by_cases qf : x = f
        · exact Or.inl ((if_neg qs).trans (if_pos qf))
        · rw [show upd (upd (t.2.2.1 5) f (-1)) s (-1) x = t.2.2.1 5 x from (if_neg qs).trans (if_neg qf)]
          have v8t : hb v8 x = true := by
            rw [e8, hb_not v7 hx, e7, hb_or, hb_one u5, hb_one u6, decide_eq_false (fun z => qf z.symm), decide_eq_false (fun z => qs z.symm)]; rfl
          rw [v8t, Bool.and_true, Bool.and_true]
          exact gb x hx
theorem ndX6_drop {h b k : Nat} {t : XT} {a1 : Int32} {Q Q' : XT → Prop} (hh : 300 ≤ h) (hb' : b + 2 < 2147483648) (g : hN b t) (hR : wqX6_drop k t a1 Q) (hQ : ∀ t, Q t → hN (b + 2) t → Q' t) : wqX6_drop (h + k) t a1 Q' := by
  cases k with
  | zero => exact False.elim hR
  | succ k =>
    have hR : wbX6_drop_0 (wpX6_drop k) k t (uI (fun _ => 0) 1 a1) (fun _ => 0) Q := hR
    show wbX6_drop_0 (wpX6_drop (h + k)) (h + k) t (uI (fun _ => 0) 1 a1) (fun _ => 0) Q'
    refine ndX6_divide hh (by omega) g hR (fun t1 hR g1 => wmX11_bit (Nat.le_add_left k h) (fun r2 hR v3 e3 v4 e4 t5 e5 v6 e6 t7 e7 => ?_) hR)
    refine hQ _ (hR v3 e3 v4 e4 t5 e5 v6 e6 t7 e7) ?_
    subst e7 e6 e5
    obtain ⟨⟨m, m1, m2, m3⟩, gb, _⟩ := id g1
    exact hN_ch g1 rfl rfl rfl m3 gb
theorem ndX2_measure {h b k : Nat} {t : XT} {Q Q' : XT → Prop} (hh : 300 ≤ h) (hb' : b < 2147483648) (g : hN b t) (hR : wqX2_measure k t Q) (hQ : ∀ t, Q t → hN b t → Q' t) : wqX2_measure (h + k) t Q' := by
  obtain ⟨⟨m, hm⟩, gb, c, c1, c2, c3⟩ := id g
  have ex : wqX2_measure (h + k) t (fun t' => hN b t') := by
    refine hT_measure hm (hN_fresh g hb') (by omega) (fun t' i fr e tp => ⟨⟨m, i⟩, ?_, c, c1, (fr.1 5 (by decide) (by decide)).trans c2, Or.inr ⟨c, Nat.le_refl c, ?_, fun _ => tp⟩⟩)
    · unfold hn_b
      rw [fr.2.2.1 5 (by decide) (by decide), fr.2.1]; exact gb
    · rw [e, fr.1 5 (by decide) (by decide)]; exact c2
  exact wiX2_measure (wmX2_measure (Nat.le_add_left k h) (fun _ x => x) hR) ex hQ
