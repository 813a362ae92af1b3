/-! ===== count 6: what hangs together, the class's hangingWith exactly ===== -/
def hzt (L : Nat → Int32) (a b : Nat) : Prop := hnF L a b ∨ hnF L b a
/-- j hangs together with k among what p says below c -/
def hzR (L : Nat → Int32) (c : Nat) (p : Nat → Prop) (k j : Nat) : Prop := ∀ S : Nat → Prop, S k → (∀ a b, S a → b < c → p b → hzt L a b → S b) → S j
theorem hzR_0 {L : Nat → Int32} {c k : Nat} {p : Nat → Prop} : hzR L c p k k := fun _ h _ => h
theorem hzR_s {L : Nat → Int32} {c k a b : Nat} {p : Nat → Prop} (h : hzR L c p k a) (hb : b < c) (pb : p b) (t : hzt L a b) : hzR L c p k b := fun S h0 hs => hs a b (h S h0 hs) hb pb t
theorem hpx_hang_go {t : XT} {L : Nat → Int32} {c k : Nat} {v : Int64} {p : Nat → Prop} {Q : Int64 → XT → Prop} (hE : hcE t L c) (hc : c ≤ 60) (hv : ∀ j, hb v j = true ↔ (j < c ∧ p j)) (hQ : ∀ w, (∀ j, hb w j = true ↔ (j < c ∧ p j ∧ hzR L c p k j)) → Q w t) :
    ∀ (d i K : Nat) (li : Nat → Int32) (lj : Nat → Int64), i + d = 60 → 2 * d + 10 ≤ K → lj 2 = v → li 8 = nI i → hb (lj 4) k = true → (∀ j, hb (lj 4) j = true → j < c ∧ p j ∧ hzR L c p k j) → (∀ j, hb (lj 6) j = true → hb (lj 4) j = true) → (∀ a b, hb (lj 4) a = true → ¬ hb (lj 6) a = true → b < c → p b → hzt L a b → hb (lj 4) b = true) →
      i ≤ hst_n (fun j => hb (lj 4) j = true ∧ ¬ hb (lj 6) j = true) c → wpX9_hangingWith K 1 t li lj Q := by
  intro d
  induction d with
  | zero =>
    intro i K li lj hd hK ev e8 hk hF hR hcl hn
    obtain ⟨K, rfl⟩ : ∃ K', K = K' + 2 := ⟨K - 2, by omega⟩
    obtain rfl : i = 60 := by omega
    have noR : ∀ j, ¬ hb (lj 6) j = true := fun j hj => by
      have w := hF j (hR j hj)
      have l1 := hst_lt (p := fun j => hb (lj 4) j = true) (q := fun j => hb (lj 4) j = true ∧ ¬ hb (lj 6) j = true) (c := c) (j := j) w.1 (hR j hj) (fun q => q.2 hj) (fun a _ q => q.1)
      have l2 := hst_le (fun j => hb (lj 4) j = true) c
      omega
    show wbX9_hangingWith_1 (wpX9_hangingWith (K + 1)) (K + 1) t li lj Q
    refine ⟨fun _ => ?_, fun x => absurd (show nI 60 ≤ li 8 by rw [e8]; exact nI_le (by omega) (by omega)) x⟩
    show Q (lj 4) t
    exact hQ _ (fun j => ⟨hF j, fun w => w.2.2 (fun j => hb (lj 4) j = true) hk (fun a b ha hb' pb tt => hcl a b ha (noR a) hb' pb tt)⟩)
  | succ d ih =>
    intro i K li lj hd hK ev e8 hk hF hR hcl hn
    obtain ⟨K, rfl⟩ : ∃ K', K = K' + 2 := ⟨K - 2, by omega⟩
    show wbX9_hangingWith_1 (wpX9_hangingWith (K + 1)) (K + 1) t li lj Q
    unfold wbX9_hangingWith_1
    rw [e8]
    refine ⟨fun x => absurd (show nI 60 ≤ nI i from x) (nI_ge (by omega) (by omega)), fun _ v3 f3 => ⟨fun z => ?_, fun nz => ?_⟩⟩
    · rw [f3] at z
      have noR : ∀ j, ¬ hb (lj 6) j = true := fun j hj => absurd hj (by rw [hb_z z j]; decide)
      show Q (lj 4) t
      exact hQ _ (fun j => ⟨hF j, fun w => w.2.2 (fun j => hb (lj 4) j = true) hk (fun a b ha hb' pb tt => hcl a b ha (noR a) hb' pb tt)⟩)
    · rcases @hb_ne (lj 6) with z | ⟨x, x64, xb, xl⟩
      · exact absurd (by rw [f3, z]; decide) nz
      have xF := hF x (hR x xb)
      have cx : (nI x).toNatClampNeg = x := nI_clamp (by omega)
      refine hw_lowest x64 xb xl (by omega) ?_
      refine ⟨vp_in_nI (n := x) x64 (by decide), fun v6 f6 => ⟨vp_in_nI (n := x) x64 (by decide), fun v7 f7 v8 f8 v9 f9 v10 f10 v11 f11 v12 f12 v13 f13 => hw_bit (k := x) (by omega) (by omega) (fun r14 g14 v15 f15 v16 f16 v17 f17 => ?_)⟩⟩
      have f6 : v6 = t.2.2.2 0 x := f6.trans (congrArg (t.2.2.2 0) cx)
      have f7 : v7 = t.2.2.2 1 x := f7.trans (congrArg (t.2.2.2 1) cx)
      have b11 : ∀ b, hb v11 b = true ↔ (b < c ∧ p b ∧ hzt L x b ∧ ¬ hb (lj 4) b = true) := by
        intro b
        by_cases b64 : b < 64
        · rw [f11, f10, f9, f8, f7, f6, ev, hb_and, hb_and, hb_not _ b64, hb_or, Bool.and_eq_true, Bool.and_eq_true, Bool.or_eq_true, Bool.not_eq_true', hv b, hE.2.2.2.2.1 x b, hE.2.2.2.2.2.1 x b]
          refine ⟨fun w => ⟨w.1.2.1, w.1.2.2, w.1.1.elim (fun q => Or.inl q.2) (fun q => Or.inr q.2), fun q => absurd (q.symm.trans w.2) (by decide)⟩, fun w => ⟨⟨w.2.2.1.elim (fun q => Or.inl ⟨xF.1, q⟩) (fun q => Or.inr ⟨w.1, q⟩), w.1, w.2.1⟩, Bool.eq_false_iff.mpr w.2.2.2⟩⟩
        · rw [hb_big (by omega)]
          exact ⟨fun w => absurd w (by decide), fun w => absurd w.1 (by omega)⟩
      have b12 : ∀ b, hb v12 b = true ↔ (hb (lj 4) b = true ∨ hb v11 b = true) := fun b => by rw [f12, hb_or, Bool.or_eq_true]
      have b16 : ∀ b, hb v16 b = true ↔ ((hb (lj 6) b = true ∨ hb v11 b = true) ∧ b ≠ x) := fun b => by
        rw [f16, f15, hb_cut g14 b, f13, hb_or, Bool.or_eq_true]
      show wpX9_hangingWith (K + 1) 1 t (uI li 8 v17) (uI (uI lj 4 v12) 6 v16) Q
      refine ih (i + 1) (K + 1) _ _ (by omega) (by omega) ev (show v17 = _ by rw [f17]; exact hs_inc i) ((b12 k).mpr (Or.inl hk)) (fun j hj => ?_) (fun j hj => ?_) (fun a b ha na hb' pb tt => ?_) ?_
      · rcases (b12 j).mp hj with w | w
        · exact hF j w
        · have w := (b11 j).mp w
          exact ⟨w.1, w.2.1, hzR_s xF.2.2 w.1 w.2.1 w.2.2.1⟩
      · exact (b12 j).mpr (((b16 j).mp hj).1.imp (hR j) id)
      · refine (b12 b).mpr ?_
        by_cases bF : hb (lj 4) b = true
        · exact Or.inl bF
        · by_cases ax : a = x
          · subst ax
            exact Or.inr ((b11 b).mpr ⟨hb', pb, tt, bF⟩)
          · rcases (b12 a).mp ha with w | w
            · exact Or.inl (hcl a b w (fun q => na ((b16 a).mpr ⟨Or.inl q, ax⟩)) hb' pb tt)
            · exact absurd ((b16 a).mpr ⟨Or.inr w, ax⟩) na
      · have l := hst_lt (p := fun j => hb v12 j = true ∧ ¬ hb v16 j = true) (q := fun j => hb (lj 4) j = true ∧ ¬ hb (lj 6) j = true) (c := c) (j := x) xF.1 ⟨(b12 x).mpr (Or.inl (hR x xb)), fun q => ((b16 x).mp q).2 rfl⟩ (fun q => q.2 xb) (fun a _ q => ⟨(b12 a).mpr (Or.inl q.1), fun y => ((b16 a).mp y).1.elim q.2 (fun y => ((b11 a).mp y).2.2.2 q.1)⟩)
        show i + 1 ≤ hst_n (fun j => hb v12 j = true ∧ ¬ hb v16 j = true) c
        omega
theorem hpx_hang {t : XT} {L : Nat → Int32} {c k K : Nat} {v : Int64} {p : Nat → Prop} {Q : Int64 → XT → Prop} (hE : hcE t L c) (hc : c ≤ 60) (hv : ∀ j, hb v j = true ↔ (j < c ∧ p j)) (hk : k < c) (pk : p k) (hK : 200 ≤ K) (hQ : ∀ w, (∀ j, hb w j = true ↔ (j < c ∧ p j ∧ hzR L c p k j)) → Q w t) : wqX9_hangingWith K t (nI k) v Q := by
  obtain ⟨K, rfl⟩ : ∃ K', K = K' + 1 := ⟨K - 1, by omega⟩
  show wbX9_hangingWith_0 (wpX9_hangingWith K) K t (uI (fun _ => 0) 1 (nI k)) (uI (fun _ => 0) 2 v) Q
  refine hw_bit (k := k) (by omega) (by omega) (fun r1 g1 => ?_)
  have b1 : ∀ j, hb r1 j = true ↔ j = k := fun j => by rw [hb_one g1]; exact ⟨fun w => (of_decide_eq_true w).symm, fun w => decide_eq_true w.symm⟩
  refine hpx_hang_go hE hc hv hQ 60 0 K (uI (uI (fun _ => 0) 1 (nI k)) 8 0) (uI (uI (uI (fun _ => 0) 2 v) 4 r1) 6 r1) (by omega) (by omega) rfl rfl ((b1 k).mpr rfl) (fun j hj => ?_) (fun j hj => hj) (fun a b ha na => absurd ha na) (Nat.zero_le _)
  have e : j = k := (b1 j).mp hj
  subst e
  exact ⟨hk, pk, hzR_0⟩
