/-! ===== lists: nth, listed of the class, exactly ===== -/
theorem hst_gap {p : Nat → Prop} {b : Nat} : ∀ d, (∀ k, b ≤ k → k < b + d → ¬ p k) → hst_n p (b + d) = hst_n p b := by
  intro d
  induction d with
  | zero => exact fun _ => rfl
  | succ d ih =>
    intro h
    show hst_n p (b + d) + hq_sel (p (b + d)) 1 = hst_n p b
    rw [ih (fun k a c => h k a (by omega)), hq_sel0 (h (b + d) (by omega) (by omega)), Nat.add_zero]
theorem hst_gap2 {p : Nat → Prop} {b j : Nat} (hbj : b ≤ j) (h : ∀ k, b ≤ k → k < j → ¬ p k) : hst_n p j = hst_n p b := by
  have g := hst_gap (p := p) (b := b) (j - b) (fun k a c => h k a (by omega))
  rw [show b + (j - b) = j by omega] at g
  exact g
theorem hst_mono {p : Nat → Prop} {a : Nat} : ∀ d, hst_n p a ≤ hst_n p (a + d) := by
  intro d
  induction d with
  | zero => exact Nat.le_refl _
  | succ d ih => exact Nat.le_trans ih (Nat.le_add_right _ _)
theorem hst_nb {v : Int64} : ∀ a, nb a (un v) = hst_n (fun k => hb v k = true) a := by
  intro a
  induction a with
  | zero => rfl
  | succ a ih =>
    rw [hct_nb, ih]
    show _ = hst_n (fun k => hb v k = true) a + hq_sel (hb v a = true) 1
    by_cases z : hb v a = true
    · have z' : (un v).testBit a = true := z
      rw [if_pos z', hq_sel1 z]
    · have z' : ¬ (un v).testBit a = true := z
      rw [if_neg z', hq_sel0 z]
theorem hx_nth_go {v : Int64} {r : Nat} {Q : Int32 → Prop} (hr : r < nb 64 (un v)) (hQ : ∀ j, j < 64 → hb v j = true → hst_n (fun k => hb v k = true) j = r → Q (nI j)) :
    ∀ (d i b K : Nat) (li : Nat → Int32) (lj : Nat → Int64), i + d = r → 2 * d + 10 ≤ K → li 2 = nI r → li 5 = nI i → (∀ k, hb (lj 3) k = true ↔ (hb v k = true ∧ b ≤ k)) → hst_n (fun k => hb v k = true) b = i → wpX11_nth K 1 li lj Q := by
  have r64 : r < 64 := Nat.lt_of_lt_of_le hr (hct_le 64 _)
  have ex : ∀ (b i : Nat) (w : Int64), i ≤ r → (∀ k, hb w k = true ↔ (hb v k = true ∧ b ≤ k)) → hst_n (fun k => hb v k = true) b = i → ∃ j, j < 64 ∧ hb w j = true ∧ (∀ k, k < j → hb w k = false) ∧ hb v j = true ∧ hst_n (fun k => hb v k = true) j = i ∧ b ≤ j := by
    intro b i w hi hw hn
    rcases @hb_ne w with z | ⟨j, j64, jb, jl⟩
    · exfalso
      have none : ∀ k, b ≤ k → ¬ hb v k = true := fun k a y => by
        have := (hw k).mpr ⟨y, a⟩
        rw [z, hb_0] at this
        exact absurd this (by decide)
      rw [hst_nb] at hr
      by_cases b64 : b ≤ 64
      · rw [hst_gap2 b64 (fun k a _ => none k a), hn] at hr
        omega
      · have m := hst_mono (p := fun k => hb v k = true) (a := 64) (b - 64)
        rw [show 64 + (b - 64) = b by omega, hn] at m
        omega
    · have q := (hw j).mp jb
      refine ⟨j, j64, jb, jl, q.1, ?_, q.2⟩
      rw [hst_gap2 q.2 (fun k a c y => absurd ((hw k).mpr ⟨y, a⟩) (by rw [jl k c]; decide)), hn]
  intro d
  induction d with
  | zero =>
    intro i b K li lj hd hK e2 e5 hw hn
    obtain ⟨K, rfl⟩ : ∃ K', K = K' + 2 := ⟨K - 2, by omega⟩
    obtain rfl : i = r := by omega
    obtain ⟨j, j64, jb, jl, jv, jn, _⟩ := ex b i (lj 3) (Nat.le_refl _) hw hn
    show wbX11_nth_1 (wpX11_nth (K + 1)) (K + 1) li lj Q
    refine ⟨fun _ => ?_, fun x => absurd (show li 2 ≤ li 5 by rw [e2, e5]; exact nI_le (Nat.le_refl _) (by omega)) x⟩
    show wbX11_nth_2 (wpX11_nth K) K li lj Q
    exact hw_lowest j64 jb jl (by omega) (hQ j j64 jv jn)
  | succ d ih =>
    intro i b K li lj hd hK e2 e5 hw hn
    obtain ⟨K, rfl⟩ : ∃ K', K = K' + 2 := ⟨K - 2, by omega⟩
    obtain ⟨j, j64, jb, jl, jv, jn, jb2⟩ := ex b i (lj 3) (by omega) hw hn
    show wbX11_nth_1 (wpX11_nth (K + 1)) (K + 1) li lj Q
    unfold wbX11_nth_1
    rw [e2, e5]
    refine ⟨fun x => absurd x (nI_ge (by omega) (by omega)), fun _ v2 f2 => ⟨fun z => ?_, fun _ v4 f4 v5 f5 v6 f6 => ?_⟩⟩
    · rw [f2] at z
      exact absurd jb (by rw [hb_z z j]; decide)
    · refine ih (i + 1) (j + 1) (K + 1) _ _ (by omega) (by omega) e2 (by show v6 = _; rw [f6]; exact hs_inc i) (fun k => ?_) ?_
      · show hb v5 k = true ↔ _
        rw [f5, f4, hb_rest jb jl k, hw k]
        refine ⟨fun y => ⟨y.1.1, ?_⟩, fun y => ⟨⟨y.1, by omega⟩, by omega⟩⟩
        refine Nat.lt_of_le_of_ne (Nat.le_of_not_lt (fun q => ?_)) (fun q => y.2 q.symm)
        have := (hw k).mpr y.1
        rw [jl k q] at this
        exact absurd this (by decide)
      · show hst_n (fun k => hb v k = true) j + hq_sel (hb v j = true) 1 = i + 1
        rw [jn, hq_sel1 jv]
theorem hx_nth {v : Int64} {r K : Nat} {Q : Int32 → Prop} (hr : r < nb 64 (un v)) (hK : 200 ≤ K) (hQ : ∀ j, j < 64 → hb v j = true → hst_n (fun k => hb v k = true) j = r → Q (nI j)) : wqX11_nth K v (nI r) Q := by
  have r64 : r < 64 := Nat.lt_of_lt_of_le hr (hct_le 64 _)
  obtain ⟨K, rfl⟩ : ∃ K', K = K' + 1 := ⟨K - 1, by omega⟩
  exact hx_nth_go hr hQ r 0 0 K (uI (uI (fun _ => 0) 2 (nI r)) 5 0) (uI (uI (fun _ => 0) 0 v) 3 v) (by omega) (by omega) rfl rfl (fun k => ⟨fun y => ⟨y, Nat.zero_le k⟩, fun y => y.1⟩) rfl
/-- the answer r of a list of what p says, asked b -/
def hlA (p : Nat → Prop) (c : Nat) (b r : Int32) : Prop :=
  (b = -1 → r = nI (hst_n p c)) ∧ (∀ n j, b = nI n → n < 64 → j < c → p j → hst_n p j = n → r = nI j) ∧ (∀ n, b = nI n → n < 2 ^ 31 → hst_n p c ≤ n → r = -2)
theorem hst_find {p : Nat → Prop} {c n : Nat} (h : n < hst_n p c) : ∃ j, j < c ∧ p j ∧ hst_n p j = n := by
  induction c with
  | zero => exact absurd h (Nat.not_lt_zero n)
  | succ c ih =>
    by_cases z : n < hst_n p c
    · obtain ⟨j, a, b, d⟩ := ih z
      exact ⟨j, by omega, b, d⟩
    · have h : n < hst_n p c + hq_sel (p c) 1 := h
      by_cases y : p c
      · rw [hq_sel1 y] at h
        exact ⟨c, by omega, y, by omega⟩
      · rw [hq_sel0 y] at h
        exact absurd h z
theorem hlA_uni {p : Nat → Prop} {c : Nat} {b r r' : Int32} (hc : c ≤ 60) (hb : -1 ≤ b) (h : hlA p c b r) (h' : hlA p c b r') : r = r' := by
  by_cases z : b = -1
  · exact (h.1 z).trans (h'.1 z).symm
  · have nz : ¬ b < 0 := by
      intro q
      have a := Int32.le_iff_toInt_le.mp hb
      have d := Int32.lt_iff_toInt_lt.mp q
      rw [show (-1 : Int32).toInt = -1 from by decide] at a
      rw [show (0 : Int32).toInt = 0 from by decide] at d
      exact z (Int32.toInt_inj.mp (by rw [show (-1 : Int32).toInt = -1 from by decide]; omega))
    obtain ⟨n, hn, e⟩ := nI_of (x := b) nz
    by_cases y : n < hst_n p c
    · obtain ⟨j, j1, j2, j3⟩ := hst_find y
      have l := hst_le p c
      exact (h.2.1 n j e (by omega) j1 j2 j3).trans (h'.2.1 n j e (by omega) j1 j2 j3).symm
    · exact (h.2.2 n e hn (by omega)).trans (h'.2.2 n e hn (by omega)).symm
theorem hst_rank {p : Nat → Prop} {i j : Nat} (pi : p i) (pj : p j) (h : hst_n p i = hst_n p j) : i = j := by
  rcases Nat.lt_trichotomy i j with q | q | q
  · have m := hst_mono (p := p) (a := i + 1) (j - (i + 1))
    rw [show i + 1 + (j - (i + 1)) = j by omega] at m
    have s : hst_n p (i + 1) = hst_n p i + 1 := by show hst_n p i + hq_sel (p i) 1 = _; rw [hq_sel1 pi]
    omega
  · exact q
  · have m := hst_mono (p := p) (a := j + 1) (i - (j + 1))
    rw [show j + 1 + (i - (j + 1)) = i by omega] at m
    have s : hst_n p (j + 1) = hst_n p j + 1 := by show hst_n p j + hq_sel (p j) 1 = _; rw [hq_sel1 pj]
    omega
theorem hst_eqv {p q : Nat → Prop} : ∀ c, (∀ k, k < c → (p k ↔ q k)) → hst_n p c = hst_n q c := by
  intro c h
  refine hq_sum_eq c (fun j hj => ?_)
  show hq_sel (p j) 1 = hq_sel (q j) 1
  by_cases z : p j
  · rw [hq_sel1 z, hq_sel1 ((h j hj).mp z)]
  · rw [hq_sel0 z, hq_sel0 (fun w => z ((h j hj).mpr w))]
theorem hx_listed {v : Int64} {p : Nat → Prop} {c K : Nat} {b : Int32} {Q : Int32 → Prop} (hv : ∀ k, hb v k = true ↔ (k < c ∧ p k)) (hc : c ≤ 60) (hb1 : -1 ≤ b) (hK : 300 ≤ K) (hQ : ∀ r, hlA p c b r → Q r) : wqX11_listed K v b Q := by
  obtain ⟨K, rfl⟩ : ∃ K', K = K' + 1 := ⟨K - 1, by omega⟩
  have tot : nb 64 (un v) = hst_n p c := by
    rw [hst_nb]
    have e := hst_gap2 (p := fun k => hb v k = true) (b := c) (j := 64) (by omega) (fun k a _ y => absurd ((hv k).mp y).1 (by omega))
    rw [e]
    exact hst_eqv c (fun k hk => (hv k).trans ⟨fun y => y.2, fun y => ⟨hk, y⟩⟩)
  have lc := hst_le p c
  show wbX11_listed_0 (wpX11_listed K) K (uI (fun _ => 0) 2 b) (uI (fun _ => 0) 0 v) Q
  refine hw_bc64 (by omega) ?_
  show (¬ b = -1 → ((nI (nb 64 (un v)) ≤ b → Q (-2)) ∧ (¬ nI (nb 64 (un v)) ≤ b → wqX11_nth K v b (fun r => Q r)))) ∧ (b = -1 → Q (nI (nb 64 (un v))))
  rw [tot]
  refine ⟨fun nb1 => ⟨fun le => hQ _ ⟨fun z => absurd z nb1, fun n j e n64 hj pj rj => ?_, fun _ _ _ _ => rfl⟩, fun gt => ?_⟩, fun e => hQ _ ⟨fun _ => rfl, fun n j e' n64 _ _ _ => absurd (e.symm.trans e') (fun q => hs_nI_neg (by omega) q.symm), fun n e' hn _ => absurd (e.symm.trans e') (fun q => hs_nI_neg hn q.symm)⟩⟩
  · exfalso
    rw [e] at le
    have := (nI_leI (a := hst_n p c) (b := n) (by omega) (by omega)).mp le
    have m := hst_mono (p := p) (a := j + 1) (c - (j + 1))
    rw [show j + 1 + (c - (j + 1)) = c by omega] at m
    have s : hst_n p (j + 1) = hst_n p j + 1 := by show hst_n p j + hq_sel (p j) 1 = _; rw [hq_sel1 pj]
    omega
  · have nz : ¬ b < 0 := by
      intro q
      have a := Int32.le_iff_toInt_le.mp hb1
      have d := Int32.lt_iff_toInt_lt.mp q
      rw [show (-1 : Int32).toInt = -1 from by decide] at a
      rw [show (0 : Int32).toInt = 0 from by decide] at d
      exact nb1 (Int32.toInt_inj.mp (by rw [show (-1 : Int32).toInt = -1 from by decide]; omega))
    obtain ⟨n, hn, e⟩ := nI_of (x := b) nz
    have lt : n < hst_n p c := Nat.lt_of_not_le (fun q => gt (by rw [e]; exact nI_le q hn))
    rw [e]
    refine hx_nth (by rw [tot]; exact lt) (by omega) (fun j j64 jb jn => hQ _ ?_)
    have jc := (hv j).mp jb
    have jr : hst_n p j = n := by rw [← jn]; exact (hst_eqv j (fun k hk => (hv k).trans ⟨fun y => y.2, fun y => ⟨by omega, y⟩⟩)).symm
    rw [e]
    refine ⟨fun z => absurd z (hs_nI_neg hn), fun n' i e' n64 hi pi ri => ?_, fun n' e' hn' le => ?_⟩
    · have : n = n' := (nI_eq hn (by omega)).mp e'
      rw [hst_rank (p := p) jc.2 pi (by omega)]
    · have : n = n' := (nI_eq hn hn').mp e'
      omega
