/-! ===== count 6: the class's partsOf, exactly ===== -/
theorem hzR_t {L : Nat → Int32} {c a b d : Nat} {p : Nat → Prop} (h : hzR L c p a b) (g : hzR L c p b d) : hzR L c p a d := fun S h0 hs => g S (h S h0 hs) hs
theorem hzR_y {L : Nat → Int32} {c a b : Nat} {p : Nat → Prop} (h : hzR L c p a b) (ha : a < c) (pa : p a) : b < c ∧ p b ∧ hzR L c p b a :=
  h (fun b => b < c ∧ p b ∧ hzR L c p b a) ⟨ha, pa, hzR_0⟩ (fun x y hx hy py t => ⟨hy, py, hzR_t (hzR_s hzR_0 hx.1 hx.2.1 (Or.symm t)) hx.2.2⟩)
/-- the least one of what hangs together with it -/
def hzM (L : Nat → Int32) (c : Nat) (p : Nat → Prop) (k : Nat) : Prop := p k ∧ ∀ j, j < k → ¬ hzR L c p k j
theorem hpx_parts_go {t : XT} {L : Nat → Int32} {c : Nat} {v : Int64} {p : Nat → Prop} {Q : Int32 → XT → Prop} (hE : hcE t L c) (hc : c ≤ 60) (hv : ∀ j, hb v j = true ↔ (j < c ∧ p j)) (hQ : Q (nI (hst_n (hzM L c p) c)) t) :
    ∀ (d i K : Nat) (li : Nat → Int32) (lj : Nat → Int64), i + d = 60 → 2 * d + 400 ≤ K → lj 1 = v → li 3 = nI i → (∀ j, hb (lj 4) j = true → j < c ∧ p j) → (∀ a b, hb (lj 4) a = true → hzR L c p a b → hb (lj 4) b = true) → i + hst_n (fun j => hzM L c p j ∧ hb (lj 4) j = true) c = hst_n (hzM L c p) c → wpX9_partsOf K 1 t li lj Q := by
  have lc := hst_le (hzM L c p) c
  intro d
  induction d with
  | zero =>
    intro i K li lj hd hK ev e3 hW hC hn
    obtain ⟨K, rfl⟩ : ∃ K', K = K' + 2 := ⟨K - 2, by omega⟩
    obtain rfl : i = 60 := by omega
    have e : hst_n (hzM L c p) c = 60 := by omega
    have fin : wpX9_partsOf (K + 1) 2 t li lj Q := by
      show Q (li 3) t
      rw [e3, ← e]; exact hQ
    show wbX9_partsOf_1 (wpX9_partsOf (K + 1)) (K + 1) t li lj Q
    exact fun v1 _ => ⟨fun _ => fin, fun _ => ⟨fun _ => fin, fun x => absurd (show nI 60 ≤ li 3 by rw [e3]; exact nI_le (by omega) (by omega)) x⟩⟩
  | succ d ih =>
    intro i K li lj hd hK ev e3 hW hC hn
    obtain ⟨K, rfl⟩ : ∃ K', K = K' + 2 := ⟨K - 2, by omega⟩
    show wbX9_partsOf_1 (wpX9_partsOf (K + 1)) (K + 1) t li lj Q
    unfold wbX9_partsOf_1
    rw [e3]
    refine fun v1 f1 => ⟨fun z => ?_, fun nz => ⟨fun x => absurd (show nI 60 ≤ nI i from x) (nI_ge (by omega) (by omega)), fun _ => ?_⟩⟩
    · rw [f1] at z
      have e0 : hst_n (fun j => hzM L c p j ∧ hb (lj 4) j = true) c = 0 := hst_none (fun k _ w => absurd w.2 (by rw [hb_z z k]; decide))
      show Q (li 3) t
      rw [e3, show i = hst_n (hzM L c p) c by omega]; exact hQ
    · rcases @hb_ne (lj 4) with z | ⟨x, x64, xb, xl⟩
      · exact absurd (by rw [f1, z]; decide) nz
      obtain ⟨xc, px⟩ := hW x xb
      refine hw_lowest x64 xb xl (by omega) ?_
      rw [ev]
      refine hpx_hang hE hc hv xc px (by omega) (fun w hw v6 f6 v7 f7 v8 f8 => ?_)
      have b7 : ∀ j, hb v7 j = true ↔ (hb (lj 4) j = true ∧ ¬ hzR L c p x j) := by
        intro j
        by_cases j64 : j < 64
        · rw [f7, f6, hb_and, hb_not _ j64, Bool.and_eq_true, Bool.not_eq_true']
          refine ⟨fun q => ⟨q.1, fun y => ?_⟩, fun q => ⟨q.1, Bool.eq_false_iff.mpr (fun y => q.2 ((hw j).mp y).2.2)⟩⟩
          have a := hzR_y y xc px
          exact absurd ((hw j).mpr ⟨a.1, a.2.1, y⟩) (by rw [q.2]; decide)
        · rw [hb_big (by omega), hb_big (by omega)]
          exact ⟨fun y => absurd y (by decide), fun y => absurd y.1 (by decide)⟩
      have xM : hzM L c p x := ⟨px, fun j hj r => absurd (hC x j xb r) (by rw [xl j hj]; decide)⟩
      have del := hst_del (p := fun j => hzM L c p j ∧ hb (lj 4) j = true) xc ⟨xM, xb⟩
      have same : hst_n (fun j => hzM L c p j ∧ hb v7 j = true) c = hst_n (fun j => (hzM L c p j ∧ hb (lj 4) j = true) ∧ j ≠ x) c := by
        refine hst_eqv c (fun j hj => ?_)
        rw [b7 j]
        refine ⟨fun q => ⟨⟨q.1, q.2.1⟩, fun y => q.2.2 (by rw [y]; exact hzR_0)⟩, fun q => ⟨q.1.1, q.1.2, fun r => ?_⟩⟩
        rcases Nat.lt_trichotomy j x with y | y | y
        · exact absurd q.1.2 (by rw [xl j y]; decide)
        · exact q.2 y
        · exact q.1.1.2 x y (hzR_y r xc px).2.2
      show wpX9_partsOf (K + 1) 1 t (uI li 3 v8) (uI lj 4 v7) Q
      refine ih (i + 1) (K + 1) _ _ (by omega) (by omega) ev (show v8 = _ by rw [f8]; exact hs_inc i) (fun j hj => hW j ((b7 j).mp hj).1) (fun a b ha r => ?_) ?_
      · have qa := (b7 a).mp ha
        have wa := hW a qa.1
        exact (b7 b).mpr ⟨hC a b qa.1 r, fun y => qa.2 (hzR_t y (hzR_y r wa.1 wa.2).2.2)⟩
      · show i + 1 + hst_n (fun j => hzM L c p j ∧ hb v7 j = true) c = _
        omega
theorem hpx_parts {t : XT} {L : Nat → Int32} {c K : Nat} {v : Int64} {p : Nat → Prop} {Q : Int32 → XT → Prop} (hE : hcE t L c) (hc : c ≤ 60) (hv : ∀ j, hb v j = true ↔ (j < c ∧ p j)) (hK : 600 ≤ K) (hQ : Q (nI (hst_n (hzM L c p) c)) t) : wqX9_partsOf K t v Q := by
  obtain ⟨K, rfl⟩ : ∃ K', K = K' + 1 := ⟨K - 1, by omega⟩
  show wbX9_partsOf_0 (wpX9_partsOf K) K t (fun _ => 0) (uI (fun _ => 0) 1 v) Q
  refine hpx_parts_go hE hc hv hQ 60 0 K _ (uI (uI (fun _ => 0) 1 v) 4 v) (by omega) (by omega) rfl rfl (fun j hj => (hv j).mp hj) (fun a b ha r => ?_) ?_
  · have wa := (hv a).mp ha
    have q := hzR_y r wa.1 wa.2
    exact (hv b).mpr ⟨q.1, q.2.1⟩
  · show 0 + hst_n (fun j => hzM L c p j ∧ hb v j = true) c = _
    rw [Nat.zero_add]
    exact hst_eqv c (fun j hj => ⟨fun w => w.1, fun w => ⟨w, (hv j).mpr ⟨hj, w.1⟩⟩⟩)
