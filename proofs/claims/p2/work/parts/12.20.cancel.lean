/-! ===== reference, pure: cancel: the one PATH turned about stays ACYCLIC ===== -/
theorem hq_full_eq {t : XT} {m e : Nat} {W W' : Nat → Int64} {A A' : Nat → Nat} (hm60 : m ≤ 60) (hM : hm_match t m) (hA : hm_acyc t m) (h : hq_full t m e W A) (h' : hq_full t m e W' A') : ∀ k, k < m → A k = A' k := by
  obtain ⟨δ, d1, d2⟩ := hA
  have low : ∀ (n k : Nat), k < m → hq_goes t e k → δ k < n → A k = A' k := by
    intro n
    induction n with
    | zero => intro k _ _ h; omega
    | succ n ih =>
      intro k hk go hd
      obtain ⟨p, hp, ep⟩ := hm_match_pars hM k hk go.2.2.1
      rw [h.2.2.1 k p hk hp go ep, h'.2.2.1 k p hk hp go ep]
      refine hq_sum_eq m (fun g hg => ?_)
      show hq_sel (g ≠ k ∧ hm_faceT t g p) (A g) = hq_sel (g ≠ k ∧ hm_faceT t g p) (A' g)
      by_cases x : g ≠ k ∧ hm_faceT t g p
      · rw [hq_sel1 x, hq_sel1 x]
        by_cases y : hq_goes t e g
        · have w := d2 k g hk hg go.2.2.1 y.2.2.1 x.1 ⟨p, by omega, ep, x.2.2.2⟩
          exact ih g hg y (by omega)
        · rw [h.2.2.2 g hg y, h'.2.2.2 g hg y]
      · rw [hq_sel0 x, hq_sel0 x]
  intro k hk
  by_cases y : hq_goes t e k
  · exact low (δ k + 1) k hk y (by omega)
  · rw [h.2.2.2 k hk y, h'.2.2.2 k hk y]
theorem hq_sum_two {g : Nat → Nat} {i j : Nat} (hij : i < j) : ∀ m : Nat, j < m → g i + g j ≤ hm_sum g m := by
  intro m hj
  have a := hq_sum_at (A := g) (g := j) m hj
  have b := hq_sum_at (A := g) (g := i) j hij
  omega
theorem hq_tot_one {t : XT} {m f s i : Nat} {A : Nat → Nat} (hi : i < m) (h : i ≠ f ∧ hm_faceT t i s) : A i ≤ hq_tot t m f s A := by
  have a := hq_sum_at (A := fun g => hq_sel (g ≠ f ∧ hm_faceT t g s) (A g)) (g := i) m hi
  have a : hm_sum (fun g => hq_sel (g ≠ f ∧ hm_faceT t g s) (A g)) i + hq_sel (i ≠ f ∧ hm_faceT t i s) (A i) ≤ hq_tot t m f s A := a
  rw [hq_sel1 h] at a
  omega
theorem hq_tot_two {t : XT} {m f s i j : Nat} {A : Nat → Nat} (hi : i < m) (hj : j < m) (ne : i ≠ j) (h : i ≠ f ∧ hm_faceT t i s) (h' : j ≠ f ∧ hm_faceT t j s) : A i + A j ≤ hq_tot t m f s A := by
  have go : ∀ x y : Nat, x < y → y < m → (x ≠ f ∧ hm_faceT t x s) → (y ≠ f ∧ hm_faceT t y s) → A x + A y ≤ hq_tot t m f s A := by
    intro x y xy hy a b
    have u := hq_sum_two (g := fun g => hq_sel (g ≠ f ∧ hm_faceT t g s) (A g)) xy m hy
    have u : hq_sel (x ≠ f ∧ hm_faceT t x s) (A x) + hq_sel (y ≠ f ∧ hm_faceT t y s) (A y) ≤ hq_tot t m f s A := u
    rw [hq_sel1 a, hq_sel1 b] at u
    exact u
  rcases Nat.lt_or_gt_of_ne ne with x | x
  · exact go i j x hj h h'
  · have := go j i x hi h' h
    omega
/-- any function that falls along every step can be made to stay below 60 -/
theorem hq_rank {t : XT} {m : Nat} {δ : Nat → Nat} (hm60 : m ≤ 60) (h : ∀ f g, f < m → g < m → hm_low t f → hm_low t g → g ≠ f → hm_on t f g → δ g < δ f) : hm_acyc t m := by
  refine ⟨fun f => hm_sum (fun g => hq_sel (hm_low t g ∧ δ g < δ f) 1) m, fun f hf _ => ?_, fun f g hf hg lf lg ne on => ?_⟩
  · show hm_sum (fun g => hq_sel (hm_low t g ∧ δ g < δ f) 1) m < 60
    have u : hm_sum (fun g => hq_sel (hm_low t g ∧ δ g < δ f) 1) m < hm_sum (fun _ => 1) m := by
      refine hm_sum_lt m f hf ?_ (fun j _ => hq_sel_le _ _)
      show hq_sel (hm_low t f ∧ δ f < δ f) 1 < 1
      rw [hq_sel0 (fun z => absurd z.2 (Nat.lt_irrefl _))]
      exact Nat.zero_lt_one
    have v : ∀ n : Nat, hm_sum (fun _ => 1) n = n := by
      intro n
      induction n with
      | zero => rfl
      | succ n ih => show hm_sum (fun _ => 1) n + 1 = n + 1; rw [ih]
    rw [v] at u
    omega
  · have w := h f g hf hg lf lg ne on
    show hm_sum (fun x => hq_sel (hm_low t x ∧ δ x < δ g) 1) m < hm_sum (fun x => hq_sel (hm_low t x ∧ δ x < δ f) 1) m
    refine hm_sum_lt m g hg ?_ (fun j _ => ?_)
    · show hq_sel (hm_low t g ∧ δ g < δ g) 1 < hq_sel (hm_low t g ∧ δ g < δ f) 1
      rw [hq_sel0 (fun z => absurd z.2 (Nat.lt_irrefl _)), hq_sel1 ⟨lg, w⟩]
      exact Nat.zero_lt_one
    · show hq_sel (hm_low t j ∧ δ j < δ g) 1 ≤ hq_sel (hm_low t j ∧ δ j < δ f) 1
      by_cases x : hm_low t j ∧ δ j < δ g
      · rw [hq_sel1 x, hq_sel1 ⟨x.1, by omega⟩]; exact Nat.le_refl _
      · rw [hq_sel0 x]; exact Nat.zero_le _
/-- the places of the row -/
def hq_X (F P : Nat → Nat) (i : Nat) : Nat := if i % 2 = 0 then P (i / 2) else F (i / 2)
def hq_off (q : Nat → Int32) (X : Nat → Nat) : Nat → (Nat → Int32)
  | 0 => q
  | i + 1 => upd (hq_off q X i) (X i) (-1)
def hq_turn (q : Nat → Int32) (F P : Nat → Nat) : Nat → (Nat → Int32)
  | 0 => q
  | i + 1 => upd (upd (hq_turn q F P i) (P i) (nI (F i))) (F i) (nI (P i))
theorem hq_off_at {q : Nat → Int32} {X : Nat → Nat} {j : Nat} : ∀ c : Nat, (∀ i, i < c → X i ≠ j) → hq_off q X c j = q j := by
  intro c
  induction c with
  | zero => intro _; rfl
  | succ c ih =>
    intro h
    show upd (hq_off q X c) (X c) (-1) j = q j
    exact (if_neg (fun z => h c (by omega) z.symm)).trans (ih (fun i hi => h i (by omega)))
theorem hq_turn_else {q : Nat → Int32} {F P : Nat → Nat} {j : Nat} : ∀ c : Nat, (∀ i, i < c → P i ≠ j ∧ F i ≠ j) → hq_turn q F P c j = q j := by
  intro c
  induction c with
  | zero => intro _; rfl
  | succ c ih =>
    intro h
    show upd (upd (hq_turn q F P c) (P c) (nI (F c))) (F c) (nI (P c)) j = q j
    exact (if_neg (fun z => (h c (by omega)).2 z.symm)).trans ((if_neg (fun z => (h c (by omega)).1 z.symm)).trans (ih (fun i hi => h i (by omega))))
theorem hq_turn_P {q : Nat → Int32} {F P : Nat → Nat} {i : Nat} : ∀ c : Nat, i < c → (∀ j, j < c → F j ≠ P i) → (∀ j, j < c → j ≠ i → P j ≠ P i) → hq_turn q F P c (P i) = nI (F i) := by
  intro c
  induction c with
  | zero => intro h; omega
  | succ c ih =>
    intro h h1 h2
    show upd (upd (hq_turn q F P c) (P c) (nI (F c))) (F c) (nI (P c)) (P i) = nI (F i)
    refine (if_neg (fun z => h1 c (by omega) z.symm)).trans ?_
    by_cases x : c = i
    · subst x; exact if_pos rfl
    · exact (if_neg (fun z => h2 c (by omega) x z.symm)).trans (ih (by omega) (fun j hj => h1 j (by omega)) (fun j hj => h2 j (by omega)))
theorem hq_turn_F {q : Nat → Int32} {F P : Nat → Nat} {i : Nat} : ∀ c : Nat, i < c → (∀ j, j < c → P j ≠ F i) → (∀ j, j < c → j ≠ i → F j ≠ F i) → hq_turn q F P c (F i) = nI (P i) := by
  intro c
  induction c with
  | zero => intro h; omega
  | succ c ih =>
    intro h h1 h2
    show upd (upd (hq_turn q F P c) (P c) (nI (F c))) (F c) (nI (P c)) (F i) = nI (P i)
    by_cases x : c = i
    · subst x; exact if_pos rfl
    · exact (if_neg (fun z => h2 c (by omega) x z.symm)).trans ((if_neg (fun z => h1 c (by omega) z.symm)).trans (ih (by omega) (fun j hj => h1 j (by omega)) (fun j hj => h2 j (by omega))))
theorem hq_can_off {t : XT} {m c : Nat} {X : Nat → Nat} {R : Nat → Int32} {lj : Nat → Int64} {Q : Int32 → XT → Prop} (hc : t.1 5 = nI c) (hc122 : c ≤ 122) (hR : t.2.2.1 10 = R) (hX : ∀ i, i < c → X i < 60 ∧ R i = nI (X i)) (L : Nat)
    (cont : ∀ (K' : Nat) (li' : Nat → Int32), L ≤ K' → li' 3 = nI 0 → wpX12_cancel K' 2 (sA t 4 (hq_off (t.2.2.1 4) X c)) li' lj Q) :
    ∀ (d i K : Nat) (li : Nat → Int32), i + d = c → d + L + 1 ≤ K → li 3 = nI i → wpX12_cancel K 1 (sA t 4 (hq_off (t.2.2.1 4) X i)) li lj Q := by
  intro d
  induction d with
  | zero =>
    intro i K li hd hK e3
    obtain ⟨K, rfl⟩ : ∃ K', K = K' + 1 := ⟨K - 1, by omega⟩
    obtain rfl : i = c := by omega
    show wbX12_cancel_1 (wpX12_cancel K) K (sA t 4 (hq_off (t.2.2.1 4) X i)) li lj Q
    refine ⟨fun _ => cont K _ (by omega) rfl, fun x => absurd (show t.1 5 ≤ li 3 by rw [hc, e3]; exact nI_le (by omega) (by omega)) x⟩
  | succ d ih =>
    intro i K li hd hK e3
    obtain ⟨K, rfl⟩ : ∃ K', K = K' + 1 := ⟨K - 1, by omega⟩
    have ci : (nI i).toNatClampNeg = i := nI_clamp (by omega)
    obtain ⟨x1, x2⟩ := hX i (by omega)
    show wbX12_cancel_1 (wpX12_cancel K) K (sA t 4 (hq_off (t.2.2.1 4) X i)) li lj Q
    unfold wbX12_cancel_1
    rw [e3]
    refine ⟨fun x => absurd (show t.1 5 ≤ nI i from x) (by rw [hc]; exact nI_ge (by omega) (by omega)), fun _ => ⟨vp_in_nI (by omega) (by decide), fun v9 e9 => ?_⟩⟩
    have e9 : v9 = nI (X i) := by
      rw [e9, ci]
      show t.2.2.1 10 i = _
      rw [hR]; exact x2
    subst e9
    refine ⟨vp_in_nI x1 (by decide), fun t10 e10 v11 e11 => ?_⟩
    rw [nI_clamp (show X i < 2 ^ 31 by omega), hm_sAA] at e10
    have e10 : t10 = sA t 4 (hq_off (t.2.2.1 4) X (i + 1)) := e10
    rw [e10]
    exact ih (i + 1) K _ (by omega) (by omega) (e11.trans (hs_inc i))
theorem hq_can_turn {t : XT} {m k : Nat} {F P : Nat → Nat} {R q : Nat → Int32} {lj : Nat → Int64} {Q : Int32 → XT → Prop} (hm : t.1 3 = nI m) (hm60 : m ≤ 60) (hc : t.1 5 = nI (2 * k + 2)) (hk : 2 * k + 2 ≤ 122) (hR : t.2.2.1 10 = R)
    (hX : ∀ i, i ≤ k → P i < 60 ∧ F i < 60 ∧ R (2 * i) = nI (P i) ∧ R (2 * i + 1) = nI (F i)) (hQ : ∀ r, Q r (sA t 4 (hq_turn q F P (k + 1)))) :
    ∀ (d i K : Nat) (li : Nat → Int32), i + d = k + 1 → d + 200 ≤ K → li 3 = nI (2 * i) → wpX12_cancel K 2 (sA t 4 (hq_turn q F P i)) li lj Q := by
  intro d
  induction d with
  | zero =>
    intro i K li hd hK e3
    obtain ⟨K, rfl⟩ : ∃ K', K = K' + 1 := ⟨K - 1, by omega⟩
    obtain rfl : i = k + 1 := by omega
    show wbX12_cancel_2 (wpX12_cancel K) K (sA t 4 (hq_turn q F P (k + 1))) li lj Q
    unfold wbX12_cancel_2
    rw [e3]
    intro v12 e12
    have e12 : v12 = nI (2 * (k + 1) + 1) := e12.trans (nI_1 _)
    refine ⟨fun _ => hm_criticalMany (t := sA t 4 (hq_turn q F P (k + 1))) hm hm60 (by omega) (hQ _), fun x => absurd (show t.1 5 ≤ v12 by rw [hc, e12]; exact nI_le (by omega) (by omega)) x⟩
  | succ d ih =>
    intro i K li hd hK e3
    obtain ⟨K, rfl⟩ : ∃ K', K = K' + 1 := ⟨K - 1, by omega⟩
    obtain ⟨p1, f1, r0, r1⟩ := hX i (by omega)
    have c0 : (nI (2 * i)).toNatClampNeg = 2 * i := nI_clamp (by omega)
    have c1 : (nI (2 * i + 1)).toNatClampNeg = 2 * i + 1 := nI_clamp (by omega)
    have cp : (nI (P i)).toNatClampNeg = P i := nI_clamp (by omega)
    have cf : (nI (F i)).toNatClampNeg = F i := nI_clamp (by omega)
    have rd0 : t.2.2.1 10 (nI (2 * i)).toNatClampNeg = nI (P i) := by rw [c0, hR]; exact r0
    have rd1 : t.2.2.1 10 (nI (2 * i + 1)).toNatClampNeg = nI (F i) := by rw [c1, hR]; exact r1
    show wbX12_cancel_2 (wpX12_cancel K) K (sA t 4 (hq_turn q F P i)) li lj Q
    unfold wbX12_cancel_2
    rw [e3]
    intro v12 e12
    have e12 : v12 = nI (2 * i + 1) := e12.trans (nI_1 _)
    refine ⟨fun x => absurd (show t.1 5 ≤ v12 from x) (by rw [hc, e12]; exact nI_ge (by omega) (by omega)), fun _ => ⟨vp_in_nI (by omega) (by decide), fun v15 e15 v16 e16 => ?_⟩⟩
    have e15 : v15 = nI (P i) := e15.trans rd0
    have e16 : v16 = nI (2 * i + 1) := e16.trans (nI_1 _)
    subst e15
    subst e16
    refine ⟨vp_in_nI (by omega) (by decide), fun v17 e17 => ⟨vp_in_nI p1 (by decide), fun t18 e18 v19 e19 => ?_⟩⟩
    have e17 : v17 = nI (F i) := e17.trans rd1
    have e19 : v19 = nI (2 * i + 1) := e19.trans (nI_1 _)
    subst e17
    subst e19
    rw [cp, hm_sAA] at e18
    subst e18
    refine ⟨vp_in_nI (by omega) (by decide), fun v20 e20 => ⟨vp_in_nI (by omega) (by decide), fun v21 e21 => ?_⟩⟩
    have e20 : v20 = nI (F i) := e20.trans rd1
    have e21 : v21 = nI (P i) := e21.trans rd0
    subst e20
    subst e21
    refine ⟨vp_in_nI f1 (by decide), fun t22 e22 v23 e23 => ?_⟩
    rw [cf, hm_sAA] at e22
    have e22 : t22 = sA t 4 (hq_turn q F P (i + 1)) := e22
    rw [e22]
    refine ih (i + 1) K _ (by omega) (by omega) ?_
    show v23 = _
    rw [e23]
    exact (nI_add (2 * i) 2).trans (congrArg nI (by omega))
/-- the turned PATH -/
theorem hq_turned {t : XT} {m n s e k : Nat} {W : Nat → Int64} {A : Nat → Nat} {R q : Nat → Int32} {F P : Nat → Nat} (hI : hq_inv t m n) (hs : s < m) (he : e < m) (cs : hm_crit t s) (ce : hm_crit t e) (hF : hq_full t m e W A) (hN : hq_tot t m 60 s A = 1) (hk : k ≤ 60)
    (hp : hq_pp t m s R k F P) (fk : F k = e) (fek : hm_faceT t e (P k)) (hq : ∀ j, j < m → (∀ i, i ≤ k → P i ≠ j ∧ F i ≠ j) → q j = hm_par t j) : hq_inv (sA t 4 (hq_turn q F P (k + 1))) m n := by
  obtain ⟨hm, hm60, ho, hM, hA, hn, h4, hpast, hT⟩ := hI
  obtain ⟨p0, pP, pF, pD⟩ := hp
  -- faces, all of them
  have Fm : ∀ i, i ≤ k → F i < m := by
    intro i hi
    by_cases x : i = k
    · rw [x, fk]; exact he
    · exact (pF i (by omega)).1
  have Pm : ∀ i, i ≤ k → P i < m := fun i hi => (pP i hi).1
  have FP : ∀ i, i ≤ k → hm_faceT t (F i) (P i) := by
    intro i hi
    by_cases x : i = k
    · rw [x, fk]; exact fek
    · exact (pF i (by omega)).2.2.2.2
  have par : ∀ i, i < k → hm_par t (F i) = nI (P (i + 1)) := fun i hi => (pF i hi).2.2.2.1
  have low : ∀ i, i < k → hm_low t (F i) := fun i hi => (pF i hi).2.2.1
  have rap : ∀ i, i < k → hm_par t (P (i + 1)) = nI (F i) ∧ F i < P (i + 1) := by
    intro i hi
    rcases hM (F i) (Fm i (by omega)) with z | ⟨p, hpm, e1, e2, e3⟩
    · exact absurd z (low i hi).1
    · have pe : p = P (i + 1) := (nI_eq (by omega) (by have := Pm (i + 1) (by omega); omega)).mp (e1.symm.trans (par i hi))
      rw [pe] at e2 e1
      exact ⟨e2, (hm_low_iff (by have := Fm i (by omega); omega) (by have := Pm (i + 1) (by omega); omega) e1).mp (low i hi)⟩
  have notlowP : ∀ i, i ≤ k → ¬ hm_low t (P i) := by
    intro i hi lo
    by_cases x : i = 0
    · rw [x, p0] at lo
      exact lo.1 cs.2
    · obtain ⟨j, rfl⟩ : ∃ j, i = j + 1 := ⟨i - 1, by omega⟩
      obtain ⟨a, b⟩ := rap j (by omega)
      have := (hm_low_iff (by have := Pm (j + 1) hi; omega) (by have := Fm j (by omega); omega) a).mp lo
      omega
  have FneP : ∀ i j, i ≤ k → j ≤ k → F i ≠ P j := by
    intro i j hi hj z
    by_cases x : i = k
    · -- e is no P: the partner of a P other than s is a face; s has another dim
      rw [x, fk] at z
      by_cases y : j = 0
      · rw [y, p0] at z
        have d1 := hm_D_face (FP 0 (by omega)).2.2
        rw [p0] at d1
        have dd : ∀ i, i ≤ k → hm_D t (F i) + 1 = hm_D t (P 0) := by
          intro i
          induction i with
          | zero => intro _; rw [p0]; omega
          | succ i ih =>
            intro h
            have a := ih (by omega)
            have b := hm_D_face (FP (i + 1) h).2.2
            obtain ⟨_, _⟩ := rap i (by omega)
            rcases hM (F i) (Fm i (by omega)) with z | ⟨p, hpm, e1, e2, e3⟩
            · exact absurd z (low i (by omega)).1
            · have pe : p = P (i + 1) := (nI_eq (by omega) (by have := Pm (i + 1) h; omega)).mp (e1.symm.trans (par i (by omega)))
              rw [pe] at e3
              rcases e3 with ⟨_, fc⟩ | ⟨lt, _⟩
              · have c := hm_D_face fc
                omega
              · have := (rap i (by omega)).2
                omega
        have c := dd k (by omega)
        rw [fk, p0, z] at c
        omega
      · obtain ⟨j', rfl⟩ : ∃ j', j = j' + 1 := ⟨j - 1, by omega⟩
        have a := (rap j' (by omega)).1
        rw [← z, ce.2] at a
        exact hs_nI_neg (n := F j') (by have := Fm j' (by omega); omega) a.symm
    · have lo := low i (by omega)
      rw [z] at lo
      exact notlowP j hj lo
  have Fd : ∀ i j, i ≤ k → j ≤ k → j ≠ i → F j ≠ F i := by
    have aux : ∀ j i, j < i → i ≤ k → F j ≠ F i := by
      intro j i hj hi z
      by_cases x : i = k
      · rw [x, fk] at z
        have lo := low j (by omega)
        rw [z] at lo
        exact lo.1 ce.2
      · exact pD j i hj (by omega) z
    intro i j hi hj ne z
    rcases Nat.lt_or_gt_of_ne ne with x | x
    · exact aux j i x hi z
    · exact aux i j x hj z.symm
  have Pd : ∀ i j, i ≤ k → j ≤ k → j ≠ i → P j ≠ P i := by
    have aux : ∀ j i, j < i → i ≤ k → P j ≠ P i := by
      intro j i hj hi z
      obtain ⟨i', rfl⟩ : ∃ i', i = i' + 1 := ⟨i - 1, by omega⟩
      have a := (rap i' (by omega)).1
      by_cases x : j = 0
      · rw [← z, x, p0, cs.2] at a
        exact hs_nI_neg (n := F i') (by have := Fm i' (by omega); omega) a.symm
      · obtain ⟨j', rfl⟩ : ∃ j', j = j' + 1 := ⟨j - 1, by omega⟩
        have b := (rap j' (by omega)).1
        rw [z, a] at b
        have := (nI_eq (by have := Fm i' (by omega); omega) (by have := Fm j' (by omega); omega)).mp b
        exact Fd j' i' (by omega) (by omega) (by omega) this
    intro i j hi hj ne z
    rcases Nat.lt_or_gt_of_ne ne with x | x
    · exact aux j i x hi z
    · exact aux i j x hj z.symm
  obtain ⟨q2, eq2⟩ : ∃ q2, q2 = hq_turn q F P (k + 1) := ⟨_, rfl⟩
  have q2P : ∀ i, i ≤ k → q2 (P i) = nI (F i) := fun i hi => by
    rw [eq2]; exact hq_turn_P (k + 1) (by omega) (fun j hj => FneP j i (by omega) hi) (fun j hj ne => Pd i j hi (by omega) ne)
  have q2F : ∀ i, i ≤ k → q2 (F i) = nI (P i) := fun i hi => by
    rw [eq2]; exact hq_turn_F (k + 1) (by omega) (fun j hj z => FneP i j hi (by omega) z.symm) (fun j hj ne => Fd i j hi (by omega) ne)
  have q2E : ∀ j, j < m → (∀ i, i ≤ k → P i ≠ j ∧ F i ≠ j) → q2 j = hm_par t j := fun j hj h => by
    rw [eq2]; exact (hq_turn_else (k + 1) (fun i hi => h i (by omega))).trans (hq j hj h)
  rw [← eq2]
  have FltP : ∀ i, i ≤ k → F i < P i := fun i hi => ho (F i) (P i) (Fm i hi) (Pm i hi) (FP i hi).2.2
  have tri : ∀ j, (∃ i, i ≤ k ∧ j = P i) ∨ (∃ i, i ≤ k ∧ j = F i) ∨ ∀ i, i ≤ k → P i ≠ j ∧ F i ≠ j := by
    intro j
    by_cases a : ∃ i, i ≤ k ∧ j = P i
    · exact Or.inl a
    · by_cases b : ∃ i, i ≤ k ∧ j = F i
      · exact Or.inr (Or.inl b)
      · exact Or.inr (Or.inr (fun i hi => ⟨fun z => a ⟨i, hi, z.symm⟩, fun z => b ⟨i, hi, z.symm⟩⟩))
  have par2 : ∀ j, hm_par (sA t 4 q2) j = q2 j := fun j => rfl
  -- the partner of what is off the row is off the row
  have offp : ∀ j p, j < m → p < m → (∀ i, i ≤ k → P i ≠ j ∧ F i ≠ j) → hm_par t j = nI p → hm_par t p = nI j → ∀ i, i ≤ k → P i ≠ p ∧ F i ≠ p := by
    intro j p hj hpm off e1 e2 i hi
    refine ⟨fun z => ?_, fun z => ?_⟩
    · rw [← z] at e2
      by_cases x : i = 0
      · rw [x, p0, cs.2] at e2
        exact hs_nI_neg (n := j) (by omega) e2.symm
      · obtain ⟨i', rfl⟩ : ∃ i', i = i' + 1 := ⟨i - 1, by omega⟩
        rw [(rap i' (by omega)).1] at e2
        exact (off i' (by omega)).2 ((nI_eq (by have := Fm i' (by omega); omega) (by omega)).mp e2)
    · rw [← z] at e2
      by_cases x : i = k
      · rw [x, fk, ce.2] at e2
        exact hs_nI_neg (n := j) (by omega) e2.symm
      · rw [par i (by omega)] at e2
        exact (off (i + 1) (by omega)).1 ((nI_eq (by have := Pm (i + 1) (by omega); omega) (by omega)).mp e2)
  have M2 : hm_match (sA t 4 q2) m := by
    intro j hj
    rcases tri j with ⟨i, hi, z⟩ | ⟨i, hi, z⟩ | off
    · refine Or.inr ⟨F i, Fm i hi, by rw [z]; exact q2P i hi, by rw [z]; exact q2F i hi, Or.inr ⟨by rw [z]; exact FltP i hi, by rw [z]; exact (FP i hi).2.2⟩⟩
    · refine Or.inr ⟨P i, Pm i hi, by rw [z]; exact q2F i hi, by rw [z]; exact q2P i hi, Or.inl ⟨by rw [z]; exact FltP i hi, by rw [z]; exact (FP i hi).2.2⟩⟩
    · rcases hM j hj with z | ⟨p, hpm, e1, e2, e3⟩
      · exact Or.inl ((q2E j hj off).trans z)
      · exact Or.inr ⟨p, hpm, (q2E j hj off).trans e1, (q2E p hpm (offp j p hj hpm off e1 e2)).trans e2, e3⟩
  have T2 : ∀ j, j < m → q2 j ≠ -1 → hm_gone t j = 0 := by
    intro j hj h
    rcases tri j with ⟨i, hi, z⟩ | ⟨i, hi, z⟩ | off
    · rw [z]; exact (FP i hi).2.1
    · rw [z]; exact (FP i hi).1
    · exact hT.1 j hj (fun z => h ((q2E j hj off).trans z))
  have A1 : ∀ i, i ≤ k → A (F i) = 1 := by
    have Ae : A e = 1 := by
      have z := hF.2.2.2 e he (fun g => g.2.1 rfl)
      rw [if_pos rfl] at z
      exact z
    have goes : ∀ i, i < k → hq_goes t e (F i) := by
      intro i hi
      refine Classical.byContradiction (fun ng => ?_)
      -- a face in a PAIR along the way is of the end's DIM
      apply ng
      refine ⟨(FP i (by omega)).1, ?_, low i hi, ?_⟩
      · rw [← fk]; exact Fd k i (by omega) (by omega) (by omega)
      · have dd : ∀ d, i + d ≤ k → hm_D t (F (i + d)) = hm_D t (F i) := by
          intro d
          induction d with
          | zero => intro _; rfl
          | succ d ih =>
            intro h
            have a := ih (by omega)
            have b := hm_D_face (FP (i + d + 1) (by omega)).2.2
            rcases hM (F (i + d)) (Fm (i + d) (by omega)) with z | ⟨p, hpm, e1, e2, e3⟩
            · exact absurd z (low (i + d) (by omega)).1
            · have pe : p = P (i + d + 1) := (nI_eq (by omega) (by have := Pm (i + d + 1) (by omega); omega)).mp (e1.symm.trans (par (i + d) (by omega)))
              rw [pe] at e3
              rcases e3 with ⟨_, fc⟩ | ⟨lt, _⟩
              · have c := hm_D_face fc
                show hm_D t (F (i + d + 1)) = _
                omega
              · have := (rap (i + d) (by omega)).2
                omega
        have z := dd (k - i) (by omega)
        rw [show i + (k - i) = k by omega, fk] at z
        unfold hm_dim
        rw [(hm_D_lt t (F i)).2, (hm_D_lt t e).2, z]
    have ge : ∀ d, d ≤ k → 1 ≤ A (F (k - d)) := by
      intro d
      induction d with
      | zero => intro _; rw [show k - 0 = k by omega, fk, Ae]; exact Nat.le_refl _
      | succ d ih =>
        intro h
        have a := ih (by omega)
        have i1 : k - (d + 1) + 1 = k - d := by omega
        have pr := par (k - (d + 1)) (by omega)
        rw [i1] at pr
        rw [hF.2.2.1 (F (k - (d + 1))) (P (k - d)) (Fm _ (by omega)) (Pm _ (by omega)) (goes _ (by omega)) pr]
        exact Nat.le_trans a (hq_tot_one (Fm _ (by omega)) ⟨Fd _ _ (by omega) (by omega) (by omega), FP _ (by omega)⟩)
    have le : ∀ i, i ≤ k → A (F i) ≤ 1 := by
      intro i
      induction i with
      | zero =>
        intro h
        rw [← hN]
        refine hq_tot_one (Fm 0 h) ⟨by have := Fm 0 h; omega, ?_⟩
        have z := FP 0 h
        rw [p0] at z
        exact z
      | succ i ih =>
        intro h
        refine Nat.le_trans ?_ (ih (by omega))
        rw [hF.2.2.1 (F i) (P (i + 1)) (Fm i (by omega)) (Pm _ h) (goes i (by omega)) (par i (by omega))]
        exact hq_tot_one (Fm _ h) ⟨Fd _ _ (by omega) h (by omega), FP _ h⟩
    intro i hi
    have a := le i hi
    have b := ge (k - i) (by omega)
    rw [show k - (k - i) = i by omega] at b
    omega
  have goes : ∀ f, f < m → hm_low t f → hm_dim t f = hm_dim t e → (∀ i, i ≤ k → P i ≠ f ∧ F i ≠ f) → hq_goes t e f := by
    intro f hf lo ed off
    refine ⟨hT.1 f hf lo.1, fun z => ?_, lo, ed⟩
    have w := (off k (Nat.le_refl _)).2
    rw [fk] at w
    exact w z.symm
  have A0 : ∀ i g, i ≤ k → g < m → g ≠ F i → (∀ j, j + 1 = i → g ≠ F j) → hm_faceT t g (P i) → A g = 0 := by
    intro i g hi hg n1 n2 fc
    by_cases x : i = 0
    · subst x
      have z := FP 0 hi
      rw [p0] at z fc
      have u := hq_tot_two (A := A) (f := 60) (s := s) hg (Fm 0 hi) n1 ⟨by omega, fc⟩ ⟨by have := Fm 0 hi; omega, z⟩
      rw [hN, A1 0 hi] at u
      omega
    · obtain ⟨i', rfl⟩ : ∃ i', i = i' + 1 := ⟨i - 1, by omega⟩
      have g1 : hq_goes t e (F i') := by
        refine Classical.byContradiction (fun ng => ?_)
        have z := hF.2.2.2 (F i') (Fm i' (by omega)) ng
        rw [A1 i' (by omega)] at z
        by_cases y : F i' = e
        · have lo := low i' (by omega)
          rw [y] at lo
          exact lo.1 ce.2
        · rw [if_neg y] at z
          omega
      have u := hq_tot_two (A := A) (f := F i') (s := P (i' + 1)) hg (Fm (i' + 1) hi) n1 ⟨n2 i' rfl, fc⟩ ⟨Fd i' (i' + 1) (by omega) hi (by omega), FP (i' + 1) hi⟩
      rw [← hF.2.2.1 (F i') (P (i' + 1)) (Fm i' (by omega)) (Pm (i' + 1) hi) g1 (par i' (by omega)), A1 i' (by omega), A1 (i' + 1) hi] at u
      omega
  have B2 : hm_acyc (sA t 4 q2) m := by
    obtain ⟨δ, d1, d2⟩ := hA
    have lowoff : ∀ j, j < m → (∀ i, i ≤ k → P i ≠ j ∧ F i ≠ j) → hm_low (sA t 4 q2) j → hm_low t j := by
      intro j hj off lo
      unfold hm_low at lo ⊢
      rw [par2, q2E j hj off] at lo
      exact lo
    have nlP : ∀ i, i ≤ k → ¬ hm_low (sA t 4 q2) (P i) := by
      intro i hi lo
      have e1 : hm_par (sA t 4 q2) (P i) = nI (F i) := q2P i hi
      have := (hm_low_iff (by have := Pm i hi; omega) (by have := Fm i hi; omega) e1).mp lo
      have := FltP i hi
      omega
    -- heights of three layers: nothing to the end (below 60), along the row (60 + place), else (200 + the old one)
    refine hq_rank (δ := fun j => hq_sel (A j = 0) (δ j) + hq_sel (¬ A j = 0 ∧ ∃ i, i ≤ k ∧ j = F i) 1 * 0 + hq_sel (¬ A j = 0 ∧ ∃ i, i ≤ k ∧ j = F i) (60 + hm_sum (fun i => hq_sel (∃ i', i' ≤ k ∧ i < i' ∧ j = F i') 1) k) + hq_sel (¬ A j = 0 ∧ ¬ ∃ i, i ≤ k ∧ j = F i) (200 + δ j)) hm60 (fun f g hf hg lf lg ne on => ?_)
    have cnt : ∀ i, i ≤ k → hm_sum (fun x => hq_sel (∃ i', i' ≤ k ∧ x < i' ∧ F i = F i') 1) k = i := by
      intro i hi
      have val : ∀ c, c ≤ k → hm_sum (fun x => hq_sel (∃ i', i' ≤ k ∧ x < i' ∧ F i = F i') 1) c = (if c ≤ i then c else i) := by
        intro c
        induction c with
        | zero => intro _; rw [if_pos (Nat.zero_le _)]; rfl
        | succ c ih =>
          intro h
          show hm_sum (fun x => hq_sel (∃ i', i' ≤ k ∧ x < i' ∧ F i = F i') 1) c + hq_sel (∃ i', i' ≤ k ∧ c < i' ∧ F i = F i') 1 = _
          rw [ih (by omega)]
          by_cases y : c < i
          · rw [hq_sel1 ⟨i, hi, y, rfl⟩, if_pos (by omega), if_pos (by omega)]
          · rw [hq_sel0 (fun ⟨i', a1, a2, a3⟩ => Fd i' i a1 hi (by omega) a3)]
            by_cases w : c ≤ i
            · rw [if_pos w, if_neg (by omega)]; omega
            · rw [if_neg w, if_neg (by omega)]; rfl
      rw [val k (Nat.le_refl _)]
      by_cases w : k ≤ i
      · rw [if_pos w]; omega
      · rw [if_neg w]
    have h0 : ∀ j, A j = 0 → (hq_sel (A j = 0) (δ j) + hq_sel (¬ A j = 0 ∧ ∃ i, i ≤ k ∧ j = F i) 1 * 0 + hq_sel (¬ A j = 0 ∧ ∃ i, i ≤ k ∧ j = F i) (60 + hm_sum (fun i => hq_sel (∃ i', i' ≤ k ∧ i < i' ∧ j = F i') 1) k) + hq_sel (¬ A j = 0 ∧ ¬ ∃ i, i ≤ k ∧ j = F i) (200 + δ j)) = δ j := by
      intro j z
      rw [hq_sel1 z, hq_sel0 (fun w : ¬ A j = 0 ∧ ∃ i, i ≤ k ∧ j = F i => w.1 z), hq_sel0 (fun w : ¬ A j = 0 ∧ ∃ i, i ≤ k ∧ j = F i => w.1 z), hq_sel0 (fun w : ¬ A j = 0 ∧ ¬ ∃ i, i ≤ k ∧ j = F i => w.1 z)]
      omega
    have h1 : ∀ i, i ≤ k → (hq_sel (A (F i) = 0) (δ (F i)) + hq_sel (¬ A (F i) = 0 ∧ ∃ i', i' ≤ k ∧ F i = F i') 1 * 0 + hq_sel (¬ A (F i) = 0 ∧ ∃ i', i' ≤ k ∧ F i = F i') (60 + hm_sum (fun x => hq_sel (∃ i', i' ≤ k ∧ x < i' ∧ F i = F i') 1) k) + hq_sel (¬ A (F i) = 0 ∧ ¬ ∃ i', i' ≤ k ∧ F i = F i') (200 + δ (F i))) = 60 + i := by
      intro i hi
      have a1 := A1 i hi
      have nz : ¬ A (F i) = 0 := by omega
      rw [hq_sel0 nz, hq_sel1 (show ¬ A (F i) = 0 ∧ ∃ i', i' ≤ k ∧ F i = F i' from ⟨nz, i, hi, rfl⟩), hq_sel1 (show ¬ A (F i) = 0 ∧ ∃ i', i' ≤ k ∧ F i = F i' from ⟨nz, i, hi, rfl⟩), hq_sel0 (fun w : ¬ A (F i) = 0 ∧ ¬ ∃ i', i' ≤ k ∧ F i = F i' => w.2 ⟨i, hi, rfl⟩), cnt i hi]
      omega
    have h2 : ∀ j, ¬ A j = 0 → (∀ i, i ≤ k → P i ≠ j ∧ F i ≠ j) → (hq_sel (A j = 0) (δ j) + hq_sel (¬ A j = 0 ∧ ∃ i, i ≤ k ∧ j = F i) 1 * 0 + hq_sel (¬ A j = 0 ∧ ∃ i, i ≤ k ∧ j = F i) (60 + hm_sum (fun i => hq_sel (∃ i', i' ≤ k ∧ i < i' ∧ j = F i') 1) k) + hq_sel (¬ A j = 0 ∧ ¬ ∃ i, i ≤ k ∧ j = F i) (200 + δ j)) = 200 + δ j := by
      intro j nz off
      have no : ¬ ∃ i, i ≤ k ∧ j = F i := fun ⟨i, a, b⟩ => (off i a).2 b.symm
      rw [hq_sel0 nz, hq_sel0 (fun w : ¬ A j = 0 ∧ ∃ i, i ≤ k ∧ j = F i => no w.2), hq_sel0 (fun w : ¬ A j = 0 ∧ ∃ i, i ≤ k ∧ j = F i => no w.2), hq_sel1 ⟨nz, no⟩]
      omega
    obtain ⟨p, hp60, ep, fc⟩ := on
    have fc : hm_face t g p := fc
    rw [par2] at ep
    rcases tri f with ⟨i, hi, z⟩ | ⟨i, hi, z⟩ | off
    · rw [z] at lf
      exact absurd lf (nlP i hi)
    · -- from the row
      subst z
      rw [q2F i hi] at ep
      obtain rfl := (nI_eq (by have := Pm i hi; omega) (by omega)).mp ep
      have gT : hm_faceT t g (P i) := ⟨T2 g hg lg.1, (FP i hi).2.1, fc⟩
      show _ < (hq_sel (A (F i) = 0) (δ (F i)) + hq_sel (¬ A (F i) = 0 ∧ ∃ i', i' ≤ k ∧ F i = F i') 1 * 0 + hq_sel (¬ A (F i) = 0 ∧ ∃ i', i' ≤ k ∧ F i = F i') (60 + hm_sum (fun x => hq_sel (∃ i', i' ≤ k ∧ x < i' ∧ F i = F i') 1) k) + hq_sel (¬ A (F i) = 0 ∧ ¬ ∃ i', i' ≤ k ∧ F i = F i') (200 + δ (F i)))
      rw [h1 i hi]
      by_cases y : ∃ j, j + 1 = i ∧ g = F j
      · obtain ⟨j, y1, y2⟩ := y
        subst y2
        show (hq_sel (A (F j) = 0) (δ (F j)) + hq_sel (¬ A (F j) = 0 ∧ ∃ i', i' ≤ k ∧ F j = F i') 1 * 0 + hq_sel (¬ A (F j) = 0 ∧ ∃ i', i' ≤ k ∧ F j = F i') (60 + hm_sum (fun x => hq_sel (∃ i', i' ≤ k ∧ x < i' ∧ F j = F i') 1) k) + hq_sel (¬ A (F j) = 0 ∧ ¬ ∃ i', i' ≤ k ∧ F j = F i') (200 + δ (F j))) < _
        rw [h1 j (by omega)]
        omega
      · have ag := A0 i g hi hg ne (fun j a b => y ⟨j, a, b⟩) gT
        show (hq_sel (A g = 0) (δ g) + hq_sel (¬ A g = 0 ∧ ∃ i, i ≤ k ∧ g = F i) 1 * 0 + hq_sel (¬ A g = 0 ∧ ∃ i, i ≤ k ∧ g = F i) (60 + hm_sum (fun i => hq_sel (∃ i', i' ≤ k ∧ i < i' ∧ g = F i') 1) k) + hq_sel (¬ A g = 0 ∧ ¬ ∃ i, i ≤ k ∧ g = F i) (200 + δ g)) < _
        rw [h0 g ag]
        rcases tri g with ⟨i', hi', w⟩ | ⟨i', hi', w⟩ | offg
        · rw [w] at lg
          exact absurd lg (nlP i' hi')
        · rw [w, A1 i' hi'] at ag
          omega
        · have := d1 g hg (lowoff g hg offg lg)
          omega
    · -- from off the row
      rw [q2E f hf off] at ep
      have lf0 := lowoff f hf off lf
      obtain ⟨p', hpm, ep'⟩ := hm_match_pars hM f hf lf0
      obtain rfl := (nI_eq (by omega) (by omega)).mp (ep.symm.trans ep')
      have gfp : hm_par t p = nI f ∧ hm_face t f p := by
        rcases hM f hf with z | ⟨x, hx, e1, e2, e3⟩
        · exact absurd z lf0.1
        · obtain rfl := (nI_eq (by omega) (by omega)).mp (e1.symm.trans ep)
          refine ⟨e2, ?_⟩
          rcases e3 with ⟨_, c⟩ | ⟨a, _⟩
          · exact c
          · have := (hm_low_iff (by omega) (by omega) ep).mp lf0
            omega
      have gT : hm_faceT t g p := ⟨T2 g hg lg.1, hT.1 p hpm (by rw [gfp.1]; exact hs_nI_neg (by omega)), fc⟩
      have dim : hm_dim t g = hm_dim t f := by
        have a := fc.1
        have b := gfp.2.1
        rw [a] at b
        have w := congrArg (· - 1) b
        have w : hm_dim t g + 1 - 1 = hm_dim t f + 1 - 1 := w
        rw [Int32.add_sub_cancel, Int32.add_sub_cancel] at w
        exact w
      have sel : A f = 0 → A g = 0 := by
        intro z
        by_cases ed : hm_dim t f = hm_dim t e
        · have go := goes f hf lf0 ed off
          rw [hF.2.2.1 f p hf hpm go ep] at z
          have u := hq_tot_one (A := A) hg ⟨ne, gT⟩
          omega
        · have ng : ¬ hq_goes t e g := fun w => ed (dim.symm.trans w.2.2.2)
          have w := hF.2.2.2 g hg ng
          by_cases y : g = e
          · exact absurd (dim.symm.trans (by rw [y])) ed
          · rw [if_neg y] at w
            exact w
      show (hq_sel (A g = 0) (δ g) + hq_sel (¬ A g = 0 ∧ ∃ i, i ≤ k ∧ g = F i) 1 * 0 + hq_sel (¬ A g = 0 ∧ ∃ i, i ≤ k ∧ g = F i) (60 + hm_sum (fun i => hq_sel (∃ i', i' ≤ k ∧ i < i' ∧ g = F i') 1) k) + hq_sel (¬ A g = 0 ∧ ¬ ∃ i, i ≤ k ∧ g = F i) (200 + δ g)) < (hq_sel (A f = 0) (δ f) + hq_sel (¬ A f = 0 ∧ ∃ i, i ≤ k ∧ f = F i) 1 * 0 + hq_sel (¬ A f = 0 ∧ ∃ i, i ≤ k ∧ f = F i) (60 + hm_sum (fun i => hq_sel (∃ i', i' ≤ k ∧ i < i' ∧ f = F i') 1) k) + hq_sel (¬ A f = 0 ∧ ¬ ∃ i, i ≤ k ∧ f = F i) (200 + δ f))
      rcases tri g with ⟨i', hi', w⟩ | ⟨i', hi', w⟩ | offg
      · rw [w] at lg
        exact absurd lg (nlP i' hi')
      · subst w
        have nz : ¬ A f = 0 := by
          intro z
          have := sel z
          rw [A1 i' hi'] at this
          omega
        rw [h1 i' hi', h2 f nz off]
        omega
      · have lg0 := lowoff g hg offg lg
        have w := d2 f g hf hg lf0 lg0 ne ⟨p, hp60, ep, fc⟩
        by_cases zf : A f = 0
        · rw [h0 f zf, h0 g (sel zf)]; exact w
        · rw [h2 f zf off]
          by_cases zg : A g = 0
          · rw [h0 g zg]
            have := d1 g hg lg0
            omega
          · rw [h2 g zg offg]; omega
  exact ⟨hm, hm60, ho, M2, B2, hn, h4, fun j hj => hq_good_ext (t := t) (fun _ => rfl) (fun _ _ => rfl) (hpast j hj), T2, hT.2⟩
