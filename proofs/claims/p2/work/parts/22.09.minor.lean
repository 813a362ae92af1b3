/-! ===== the class: the minor of a table by INCIDENCES is above 0 ===== -/
def h6_s (t : XT) : Prop := h6_F t ∧ ∃ m, m ≤ 60 ∧ t.1 4 = nI m ∧ ∀ k x, k < 64 → hb (t.2.2.2 0 k) x = true → k < m
theorem ht_topo_fr {t t' : XT} (h : ht_topo t) (e6 : t'.1 6 = t.1 6) (eJ : t'.2.1 0 = t.2.1 0) (e5 : t'.2.2.1 5 = t.2.2.1 5) (e7 : t'.2.2.1 7 = t.2.2.1 7) (e0 : t'.2.2.2 0 = t.2.2.2 0) : ht_topo t' := by
  unfold ht_topo; rw [e6, eJ, e5, e7, e0]; exact h
theorem hj_resize {t : XT} {a b K : Nat} {Q : XT → Prop} (ha : a < 64) (hb : b < 64) (hab : a * b ≤ 900) (hK : 20 ≤ K) (hQ : Q (sI (sI t 10 (nI a)) 11 (nI b))) : wqX5_resize K t (nI a) (nI b) Q := by
  obtain ⟨K, rfl⟩ : ∃ K', K = K' + 5 := ⟨K - 5, by omega⟩
  have fin : ∀ (u : XT), u = sI (sI t 10 (nI a)) 11 (nI b) → Q u := by
    intro u e; rw [e]; exact hQ
  show wbX5_resize_0 (wpX5_resize (K + 4)) (K + 4) t (uI (uI (fun _ => 0) 1 (nI a)) 2 (nI b)) (fun _ => 0) Q
  refine ⟨fun x => absurd x (nI_pos (n := a) (by omega)), fun _ => ⟨fun x => absurd x (nI_pos (n := b) (by omega)), fun _ => ⟨fun x => absurd x (show ¬ nI 64 ≤ nI a from nI_ge ha (by omega)), fun _ => ⟨fun x => absurd x (show ¬ nI 64 ≤ nI b from nI_ge hb (by omega)), fun _ v5 e5 => ?_⟩⟩⟩⟩
  have e5 : v5 = nI (a * b) := e5.trans (pk_mul a b)
  subst e5
  refine ⟨fun x => absurd x (show ¬ nI 900 < nI (a * b) from nI_nlt hab (by omega)), fun _ => ?_⟩
  show wbX5_resize_2 (wpX5_resize (K + 3)) (K + 3) t _ _ Q
  refine ⟨fun x => absurd (show (1 : Int32) = 0 from x) (by decide), fun _ => ?_⟩
  show wbX5_resize_3 (wpX5_resize (K + 2)) (K + 2) t _ _ Q
  intro t8 e8
  refine ⟨fun x => absurd (show (1 : Int32) = 0 from x) (by decide), fun _ => ?_⟩
  show wbX5_resize_4 (wpX5_resize (K + 1)) (K + 1) t8 _ _ Q
  intro t10 e10
  refine fin t10 ?_
  rw [e10, e8]
  rfl
theorem cp_64 {P : Nat → Bool} {m : Nat} (hm : m ≤ 64) (h : ∀ k, m ≤ k → P k = false) : cp P 64 = cp P m := by
  have := cp_z P (m := m) (64 - m) h
  rw [show m + (64 - m) = 64 by omega] at this; exact this
theorem hj_pow : ∀ d i : Nat, d < 4 → i < 30 → (d < 3 ∨ i < 26) → (((d + 2 : Nat) : Int)) ^ i * ((d + 2 : Nat) : Int) ≤ 2305843009213693952 := by
  intro d i hd hi h
  rcases (show d = 0 ∨ d = 1 ∨ d = 2 ∨ d = 3 by omega) with rfl | rfl | rfl | rfl
  · exact hc_pw2 i hi
  · exact hc_pw3 i hi
  · exact hc_pw4 i hi
  · exact hc_pw5 i (by omega)
theorem hj_abs {x : Int} (h : x * x ≤ 2305843009213693952) : (Int64.ofInt x).toInt = x := by
  have h1 : x < 9223372036854775808 := by
    refine Int.lt_of_not_ge (fun q => ?_)
    have q : 9223372036854775808 ≤ x := q
    have := Int.mul_le_mul q q (by decide) (by omega)
    omega
  have h2 : -9223372036854775808 ≤ x := by
    refine Int.le_of_not_gt (fun q => ?_)
    have q : x < -9223372036854775808 := q
    have := Int.mul_le_mul (show 9223372036854775808 ≤ -x by omega) (show 9223372036854775808 ≤ -x by omega) (by decide) (by omega)
    rw [Int.neg_mul_neg] at this
    omega
  exact Int64.toInt_ofInt_of_le h2 h1
theorem hj_minor {t : XT} {z : Int32} {m d : Nat} {s : Int64} (hI : hx_inv t z m) (hS5 : h5_s t) (h6 : h6_s t) (hT : t.1 7 = t.1 5 → ht_topo t) (hd : d < 4) (hs : ∀ k, k < 64 → hb s k = true → t.2.2.1 5 k = -1) : hx_minor t s (nI (d + 1)) 1 z m 12000 := by
  intro K Q hK hQ _
  obtain ⟨K, rfl⟩ : ∃ K', K = K' + 1 := ⟨K - 1, by omega⟩
  obtain ⟨hS, m5, m2, c1, c2, c3, c4, c5⟩ := hS5
  obtain ⟨m', m60, e4, hA, hO⟩ := hS
  obtain rfl : m' = m := (nI_eq (by omega) (by have := hI.2.2.1; omega)).mp (e4.symm.trans hI.2.1)
  obtain rfl : m5 = m' := (nI_eq (by omega) (by omega)).mp (c2.symm.trans e4)
  obtain ⟨hF, m6, d1, d2, d3⟩ := h6
  obtain rfl : m6 = m5 := (nI_eq (by omega) (by omega)).mp (d2.symm.trans e4)
  show wbX0_rankOf_0 (wpX0_rankOf K) K t (uI (uI (fun _ => 0) 3 (nI (d + 1))) 4 1) (uI (fun _ => 0) 1 s) Q
  refine ⟨fun x => absurd x (show ¬ nI (d + 1) < nI 1 from nI_nlt (by omega) (by omega)), fun _ => ⟨fun _ => ⟨vp_in_nI (n := d + 1) (by omega) (by decide), fun v3 e3 v4 e4' v5 e5 => ?_⟩, fun x => absurd (show nI (d + 1) < nI 5 from nI_lt (by omega) (by omega)) x⟩⟩
  have e5 : v5 = nI d := e5.trans (nI_pred d)
  subst e5
  refine ⟨vp_in_nI (by omega) (by decide), fun v6 e6 v7 e7 => ?_⟩
  have e3 : v3 = t.2.2.2 2 (nI (d + 1)).toNatClampNeg := e3
  rw [nI_clamp (by omega)] at e3 e6
  have u1 : ∀ k, hb v4 k = true → k < m6 ∧ t.2.2.1 3 k = nI (d + 1) ∧ t.2.2.1 5 k = -1 := by
    intro k hk
    have e4' : v4 = s &&& v3 := e4'
    rw [e4', hb_and, Bool.and_eq_true, e3] at hk
    obtain ⟨a1, a2⟩ := hO (d + 1) k (by omega) hk.2
    exact ⟨a1, a2, hs k (by omega) hk.1⟩
  have u2 : ∀ k, hb v7 k = true → k < m6 ∧ t.2.2.1 3 k = nI d ∧ t.2.2.1 5 k = -1 := by
    intro k hk
    have e7 : v7 = s &&& v6 := e7
    rw [e7, hb_and, Bool.and_eq_true, e6] at hk
    obtain ⟨a1, a2⟩ := hO d k (by omega) hk.2
    exact ⟨a1, a2, hs k (by omega) hk.1⟩
  have z1 : ∀ i, m6 ≤ i → hb v4 i = false := fun i hi => by
    cases q : hb v4 i with
    | false => rfl
    | true => have := (u1 i q).1; omega
  have z2 : ∀ i, m6 ≤ i → hb v7 i = false := fun i hi => by
    cases q : hb v7 i with
    | false => rfl
    | true => have := (u2 i q).1; omega
  have dj := cp_disj (hb v4) (hb v7) (fun k p q => by
    have a := (u1 k p).2.1
    have b := (u2 k q).2.1
    have := (nI_eq (by omega) (by omega)).mp (a.symm.trans b)
    omega) m6
  have k1 : cp (hb v4) 64 = cp (hb v4) m6 := cp_64 (by omega) z1
  have k2 : cp (hb v7) 64 = cp (hb v7) m6 := cp_64 (by omega) z2
  have sum : cp (hb v4) 64 + cp (hb v7) 64 ≤ 60 := by omega
  have ab := hc_ab900 sum
  obtain ⟨a, ea⟩ : ∃ a, a = cp (hb v4) 64 := ⟨_, rfl⟩
  obtain ⟨b, eb⟩ : ∃ b, b = cp (hb v7) 64 := ⟨_, rfl⟩
  obtain ⟨K, rfl⟩ : ∃ K', K = K' + 1 := ⟨K - 1, by omega⟩
  show wbX0_fill_0 (wpX0_fill K) K t (uI (fun _ => 0) 5 1) (uI (uI (fun _ => 0) 1 v4) 3 v7) _
  refine hw_bc64 (by omega) (hw_bc64 (by omega) ?_)
  show wqX5_resize K t (nI (nb 64 (un v4))) (nI (nb 64 (un v7))) _
  rw [cp_bc, cp_bc, ← ea, ← eb]
  rw [← ea, ← eb] at ab sum
  refine hj_resize (by omega) (by omega) ab (by omega) ?_
  obtain ⟨t3, et3⟩ : ∃ t3, t3 = sI (sI t 10 (nI a)) 11 (nI b) := ⟨_, rfl⟩
  rw [← et3]
  have M3 : hx_ab t3 a b := by rw [et3]; exact ⟨by omega, by omega, ab, rfl, rfl⟩
  have I3 : hx_inv t3 z m6 := by
    obtain ⟨a1, a2, a3, a4, a5, a6, a7, a8, a9, a10, _⟩ := hI
    rw [et3]
    exact ⟨a1, a2, a3, a4, a5, a6, a7, a8, a9, a10, ⟨a, b, by rw [et3] at M3; exact M3⟩⟩
  have J3 : t3.2 = t.2 := by rw [et3]; rfl
  have F3 : h6_F t3 := hj_F hF (by rw [J3]) (by rw [J3])
  have T3 : t3.1 7 = t3.1 5 → ht_topo t3 := by
    intro e
    have e : t.1 7 = t.1 5 := by rw [et3] at e; exact e
    exact ht_topo_fr (hT e) (by rw [et3]; rfl) (by rw [J3]) (by rw [J3]) (by rw [J3]) (by rw [J3])
  have D3 : t3.2.2.1 3 = t.2.2.1 3 := by rw [J3]
  refine hj_fill1 (z := z) (m := m6) (d := d) (a := a) (b := b) (u := v4) (v := v7) I3 F3 T3 hd M3 z2 (fun i hi => by rw [D3]; exact ⟨(u1 i hi).1, (u1 i hi).2.1⟩) ea eb (fun t1 o g t' hC f1 g1 hR => ?_) (fun a0 => ?_) m6 0 K _ _ (by omega) (by omega) rfl rfl rfl rfl rfl rfl
  · have eP : t1.2.2.1 5 = t.2.2.1 5 := (f1.2.2.1 5 (by decide) (by decide)).trans (by rw [J3])
    have eD : t1.2.2.1 3 = t.2.2.1 3 := (f1.2.2.1 3 (by decide) (by decide)).trans (by rw [J3])
    have eF : t1.2.2.2 0 = t.2.2.2 0 := by rw [f1.2.2.2, J3]
    have hI1 := hC.1
    have cx : hf_cx (t1.2.2.1 5) (t1.2.2.1 3) (t1.2.2.2 0) (t1.2.1 0) o g := ⟨hC.2.2.2.2.2.2, hC.2.1.1, hI1.2.2.2.2.2.2.2.1⟩
    have pn0 : ∀ c, t.2.2.1 5 c = -1 → hf_lw (t1.2.2.1 5) (t1.2.2.1 3) (t1.2.2.2 0) (t1.2.1 0) d c = false := by
      intro c hc
      have e : hf_pn (t1.2.2.1 5) c = 0 := by
        unfold hf_pn
        rw [eP, hc]; rfl
      unfold hf_lw
      rw [e, decide_eq_false (Nat.not_lt_zero c), Bool.false_and, Bool.and_false]
    have deg : ∀ k, k < 64 → t1.2.2.1 3 k = nI (d + 1) → cp (hb (t1.2.2.2 0 k)) 64 ≤ d + 2 := by
      intro k hk hD
      rw [eD] at hD
      rw [eF]
      by_cases km : k < m6
      · obtain ⟨dd, q1, q2, q3⟩ := hc_deg (hA k km)
        have : dd = d + 1 := (nI_eq (by omega) (by omega)).mp (q2.symm.trans hD)
        rw [cp_64 (m := k) (by omega) (fun x hx => by
          cases q : hb (t.2.2.2 0 k) x with
          | false => rfl
          | true => have := (hF.1 k x hk q).1; omega)]
        omega
      · have := cp_64 (P := hb (t.2.2.2 0 k)) (m := 0) (by omega) (fun x _ => by
          cases q : hb (t.2.2.2 0 k) x with
          | false => rfl
          | true => have := d3 k x hk q; omega)
        rw [this]; exact Nat.zero_le _
    obtain ⟨⟨w, C, X, hE⟩, hB⟩ := hf_table (P := t1.2.2.1 5) (L := t1.2.2.1 2) (D := t1.2.2.1 3) (F := t1.2.2.2 0) (th := t1.2.1 0) (v := v7) (d := d) (o := o) (a := a) (N := d + 2) (g := g) (kr := ki (hb v4) 64) cx hd (fun c hc => ⟨by have := (u2 c hc).1; omega, pn0 c (u2 c hc).2.2, by rw [eD]; exact (u2 c hc).2.1⟩) deg (fun r hr => by
      have := (ki_sp (hb v4) 64 (show r < cp (hb v4) 64 by omega))
      exact ⟨this.1, by rw [eD]; exact (u1 _ this.2.1).2.1⟩)
    obtain ⟨n1, n2⟩ := hf_count (P := t1.2.2.1 5) (D := t1.2.2.1 3) (F := t1.2.2.2 0) (th := t1.2.1 0) (u := v4) (v := v7) (d := d) (o := o) (m := m6) (g := g) cx hd (by rw [eF]; exact d3) (fun c hc => ⟨(u2 c hc).1, pn0 c (u2 c hc).2.2, by rw [eD]; exact (u2 c hc).2.1⟩) (fun k hk => ⟨(u1 k hk).1, by rw [eD]; exact (u1 k hk).2.1, by rw [eP]; exact (u1 k hk).2.2⟩)
    obtain ⟨q, eq⟩ : ∃ q, q = hf_q (t1.2.2.1 5) (t1.2.2.1 3) (t1.2.2.2 0) (t1.2.1 0) d o g := ⟨_, rfl⟩
    rw [← eq, eD, ← ea] at n1
    rw [← eq, eD, ← eb] at n2
    rw [← eq] at hB
    have out : ∀ e k, m6 ≤ k → (decide (k < m6) && decide (t.2.2.1 3 k = nI e)) = false := fun e k hk => by rw [decide_eq_false (by omega), Bool.false_and]
    have both : ∀ k, (decide (k < m6) && decide (t.2.2.1 3 k = nI (d + 1))) = true → (decide (k < m6) && decide (t.2.2.1 3 k = nI d)) = true → False := by
      intro k p q
      simp only [Bool.and_eq_true, decide_eq_true_eq] at p q
      have := (nI_eq (by omega) (by omega)).mp (p.2.symm.trans q.2)
      omega
    rw [cp_64 (show m6 ≤ 64 by omega) (out (d + 1))] at n1
    rw [cp_64 (show m6 ≤ 64 by omega) (out d)] at n2
    have n3 := cp_disj _ _ both m6
    have nb : ∀ i, i < a → i < b → ((d + 2 : Nat) : Int) ^ (q + i) * ((d + 2 : Nat) : Int) ≤ 2305843009213693952 := by
      intro i ia ib
      refine hj_pow d (q + i) hd (by omega) ?_
      rcases Nat.lt_or_ge d 3 with d3' | d3'
      · exact Or.inl d3'
      · refine Or.inr ?_
        obtain rfl : d = 3 := by omega
        rcases c5 with c5 | c5
        · have n4 := cp_two _ _ both (m2 := m2) (fun k hk => by
            by_cases km : k < m6
            · obtain ⟨e, e2, ee⟩ := c4 k km hk
              constructor
              · rw [ee, decide_eq_false (nI_ne (by omega) (by omega) (show e ≠ 3 + 1 by omega)), Bool.and_false]
              · rw [ee, decide_eq_false (nI_ne (by omega) (by omega) (show e ≠ 3 by omega)), Bool.and_false]
            · constructor <;> rw [decide_eq_false km, Bool.false_and]) m6
          omega
        · have sp := ki_sp (hb v4) 64 (show 0 < cp (hb v4) 64 by omega)
          obtain ⟨x1, x2, _⟩ := u1 _ sp.2.1
          exact absurd x2 (c5 _ x1)
    have It : hx_inv t' z m6 := hx_same hI1 g1.1 g1.2.2.1
    have Mt : hx_ab t' a b := by
      obtain ⟨m1, m2', m3, m4, m5'⟩ := M3
      exact ⟨m1, m2', m3, by rw [g1.1, f1.1 10 (by decide) (by decide)]; exact m4, by rw [g1.1, f1.1 11 (by decide) (by decide)]; exact m5'⟩
    refine hb_eliminate_q (qo := hf_q (t1.2.2.1 5) (t1.2.2.1 3) (t1.2.2.2 0) (t1.2.1 0) d o g) (b := cp (hb v7) 64) (N := ((d + 2 : Nat) : Int)) It (by rw [← eb]; exact Mt) (fun r c hr hc => ?_) (by omega) hE (by rw [← eq, ← eb]; exact nb) (by omega) (fun r t'' hr h' hp => hQ r t'' hr h' hp)
    have sp := ki_sp (hb v7) 64 (show c < cp (hb v7) 64 by omega)
    have cell := hR r hr (ki (hb v7) 64 c) sp.1 sp.2.1
    rw [sp.2.2] at cell
    rw [← eb, cell]
    refine hj_abs (Int.le_trans (hB r c hr hc) ?_)
    have := nb 0 (by omega) (by omega)
    rw [Nat.add_zero, Int.mul_comm] at this
    exact this
  · refine hb_eliminate (a := a) (b := b) (N := 1) (T := fun r c => (t3.2.2.2 7 (r * b + c)).toInt) I3 M3 (fun r c _ _ => rfl) (Int.le_refl 1) (fun r hr => absurd hr (by omega)) (fun i hi => absurd hi (by omega)) (by omega) (fun r t'' hr h' hp => hQ r t'' hr h' hp)
