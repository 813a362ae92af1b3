/-! ===== tables by INCIDENCES: the elimination's start ===== -/
theorem hf_E_fl {P L D : Nat → Int32} {F : Nat → Int64} {th v : Int64} {d o : Nat} {g : Nat → Nat} {E0 : Nat → Int} (hC : hf_cx P D F th o g) : ∀ s, s ≤ o → ∀ j, ef_fl (fun i j => hf_sg L F (hf_sig P D F th v d o g j) (hf_pn P (hf_f P D F th d o g i))) (fun j => E0 (hf_sig P D F th v d o g j)) (cp (hf_lb P D F th d o g) s) j = hf_E P L D F th d o g E0 s (hf_sig P D F th v d o g j)
  | 0, _, j => rfl
  | s + 1, hs, j => by
    have ih := hf_E_fl (L := L) (v := v) (d := d) (E0 := E0) hC s (by omega)
    have b0 : hf_lb P D F th d o g s = hf_lw P D F th d (g (o - 1 - s)) := by
      unfold hf_lb
      rw [decide_eq_true (show s < o by omega)]; rfl
    show ef_fl _ _ (cp (hf_lb P D F th d o g) s + (if hf_lb P D F th d o g s = true then 1 else 0)) j = (if hf_lw P D F th d (g (o - 1 - s)) = true then _ else _)
    by_cases q : hf_lw P D F th d (g (o - 1 - s)) = true
    · rw [b0, if_pos q, if_pos q]
      have hq : cp (hf_lb P D F th d o g) s < hf_q P D F th d o g := cp_st _ (by rw [b0]; exact q) (by omega)
      have ef : hf_f P D F th d o g (cp (hf_lb P D F th d o g) s) = g (o - 1 - s) := by
        unfold hf_f
        rw [ki_inv (hf_lb P D F th d o g) (by rw [b0]; exact q) (by omega)]
      have es : hf_sig P D F th v d o g (cp (hf_lb P D F th d o g) s) = g (o - 1 - s) := by
        unfold hf_sig
        rw [if_pos hq]; exact ef
      show ef_fl _ _ (cp (hf_lb P D F th d o g) s) j - ef_fl _ _ (cp (hf_lb P D F th d o g) s) (cp (hf_lb P D F th d o g) s) * hf_sg L F (hf_sig P D F th v d o g (cp (hf_lb P D F th d o g) s)) (hf_pn P (hf_f P D F th d o g (cp (hf_lb P D F th d o g) s))) * hf_sg L F (hf_sig P D F th v d o g j) (hf_pn P (hf_f P D F th d o g (cp (hf_lb P D F th d o g) s))) = _
      rw [ih j, ih (cp (hf_lb P D F th d o g) s), es, ef]
    · rw [b0, if_neg q, if_neg q]
      exact ih j
/-- what a row begins with: signs of one SIMPLEX, or nothing -/
theorem hf_su_k {P L D : Nat → Int32} {F : Nat → Int64} {d k c : Nat} {g : Nat → Nat} : ∀ n, (∀ i j, i < n → j < n → g i = g j → i = j) → hf_su P L D F d g (fun y => if y = k then 1 else 0) n c = 0 ∨ hf_su P L D F d g (fun y => if y = k then 1 else 0) n c = hf_bs P L F k c
  | 0, _ => Or.inl rfl
  | n + 1, inj => by
    show hf_su P L D F d g (fun y => if y = k then 1 else 0) n c + (if D (g n) = nI (d + 1) then (if g n = k then 1 else 0) * hf_bs P L F (g n) c else 0) = 0 ∨ hf_su P L D F d g (fun y => if y = k then 1 else 0) n c + (if D (g n) = nI (d + 1) then (if g n = k then 1 else 0) * hf_bs P L F (g n) c else 0) = _
    by_cases q : g n = k
    · have z : hf_su P L D F d g (fun y => if y = k then 1 else 0) n c = 0 := by
        rw [hf_su_e (V := fun _ => 0) n (fun j hj _ => if_neg (fun e => by
          have := inj j n (by omega) (by omega) (e.trans q.symm)
          omega))]
        have : ∀ n, hf_su P L D F d g (fun _ => 0) n c = 0 := by
          intro n
          induction n with
          | zero => rfl
          | succ n ih =>
            show hf_su P L D F d g (fun _ => 0) n c + (if D (g n) = nI (d + 1) then 0 * hf_bs P L F (g n) c else 0) = 0
            rw [ih, Int.zero_mul]; split <;> rfl
        exact this n
      rw [z, q, if_pos rfl, Int.one_mul, Int.zero_add]
      by_cases r : D k = nI (d + 1)
      · rw [if_pos r]; exact Or.inr rfl
      · rw [if_neg r]; exact Or.inl rfl
    · rw [if_neg q, Int.zero_mul, show (if D (g n) = nI (d + 1) then (0 : Int) else 0) = 0 by split <;> rfl, Int.add_zero]
      exact hf_su_k n (fun i j hi hj => inj i j (by omega) (by omega))
theorem hf_E0_sq {P L D : Nat → Int32} {F : Nat → Int64} {d k c o : Nat} {g : Nat → Nat} (inj : ∀ i j, i < o → j < o → g i = g j → i = j) (hc : c ≠ k) : ((if c = k then (1 : Int) else 0) + hf_su P L D F d g (fun y => if y = k then 1 else 0) o c) * ((if c = k then (1 : Int) else 0) + hf_su P L D F d g (fun y => if y = k then 1 else 0) o c) ≤ if hb (F k) c = true then 1 else 0 := by
  rw [if_neg hc, Int.zero_add]
  rcases hf_su_k (P := P) (L := L) (D := D) (F := F) (d := d) (k := k) (c := c) o inj with z | z
  · rw [z, Int.mul_zero]; split <;> decide
  · rw [z]; exact hf_bsq P L F k c
theorem hf_sig_D {P D : Nat → Int32} {F : Nat → Int64} {th v : Int64} {d o j : Nat} {g : Nat → Nat} (hC : hf_cx P D F th o g) (hd : d < 4) (hvD : ∀ c, hb v c = true → D c = nI d) (hj : j < hf_q P D F th d o g + cp (hb v) 64) : D (hf_sig P D F th v d o g j) = nI d := by
  unfold hf_sig
  by_cases a : j < hf_q P D F th d o g
  · rw [if_pos a]
    obtain ⟨b, c, _⟩ := hf_f_sp a
    exact (hf_pair hC hd (show o - 1 - ki (hf_lb P D F th d o g) o j < o by omega) c).2.2.2.2.1
  · rw [if_neg a]
    exact hvD _ (ki_sp (hb v) 64 (show j - hf_q P D F th d o g < cp (hb v) 64 by omega)).2.1
/-- the whole: the table of what comes down from the rows kr -/
theorem hf_table {P L D : Nat → Int32} {F : Nat → Int64} {th v : Int64} {d o a N : Nat} {g kr : Nat → Nat} (hC : hf_cx P D F th o g) (hd : d < 4) (hv : ∀ c, hb v c = true → c < 64 ∧ hf_lw P D F th d c = false ∧ D c = nI d) (hdeg : ∀ k, k < 64 → D k = nI (d + 1) → cp (hb (F k)) 64 ≤ N) (hkr : ∀ r, r < a → kr r < 64 ∧ D (kr r) = nI (d + 1)) :
    (∃ (w : ex (hf_q P D F th d o g + cp (hb v) 64)) (C : Nat → Bool) (X : Nat → Nat → Int), eq_inv (hf_q P D F th d o g) (cp (hb v) 64) a 0 0 (N : Int) 1 w C X (fun r j => hf_fo P L D F d o g (fun y => if y = kr r then 1 else 0) o (ki (hb v) 64 j))) ∧ ∀ r j, r < a → j < cp (hb v) 64 → hf_fo P L D F d o g (fun y => if y = kr r then 1 else 0) o (ki (hb v) 64 j) * hf_fo P L D F d o g (fun y => if y = kr r then 1 else 0) o (ki (hb v) 64 j) ≤ (N : Int) * (N : Int) ^ hf_q P D F th d o g := by
  obtain ⟨q, hq⟩ : ∃ q, q = hf_q P D F th d o g := ⟨_, rfl⟩
  obtain ⟨b, hb'⟩ : ∃ b, b = cp (hb v) 64 := ⟨_, rfl⟩
  have hv1 : ∀ c, hb v c = true → hf_lw P D F th d c = false := fun c h => (hv c h).2.1
  have hv2 : ∀ c, hb v c = true → D c = nI d := fun c h => (hv c h).2.2
  have sD : ∀ j, j < hf_q P D F th d o g + cp (hb v) 64 → D (hf_sig P D F th v d o g j) = nI d := fun j hj => hf_sig_D hC hd hv2 hj
  have pr : ∀ i, i < hf_q P D F th d o g → hf_pn P (hf_f P D F th d o g i) < 64 ∧ P (hf_pn P (hf_f P D F th d o g i)) = nI (hf_f P D F th d o g i) ∧ D (hf_pn P (hf_f P D F th d o g i)) = nI (d + 1) ∧ hb (F (hf_pn P (hf_f P D F th d o g i))) (hf_f P D F th d o g i) = true ∧ D (hf_f P D F th d o g i) = nI d ∧ ∃ j, j < o - 1 - ki (hf_lb P D F th d o g) o i ∧ g j = hf_pn P (hf_f P D F th d o g i) := by
    intro i hi
    obtain ⟨a1, a2, _⟩ := hf_f_sp hi
    exact hf_pair hC hd (show o - 1 - ki (hf_lb P D F th d o g) o i < o by omega) a2
  have p_N : ∀ i, i < hf_q P D F th d o g → ex_sq (hf_q P D F th d o g + cp (hb v) 64) (fun j => hf_sg L F (hf_sig P D F th v d o g j) (hf_pn P (hf_f P D F th d o g i))) ≤ (N : Int) := by
    intro i hi
    obtain ⟨b1, _, b3, _⟩ := pr i hi
    exact Int.le_trans (hf_sq hC hv1 (fun j _ => Int.le_of_eq (hf_sgq L F _ _))) (Int.ofNat_le.mpr (hdeg _ b1 b3))
  have p_t : ∀ i j, i < hf_q P D F th d o g → j < i → hf_sg L F (hf_sig P D F th v d o g j) (hf_pn P (hf_f P D F th d o g i)) = 0 := by
    intro i j hi hj
    have hjq : j < hf_q P D F th d o g := by omega
    obtain ⟨b1, b2, b3, b4, b5, j0, j0n, ej0⟩ := pr i hi
    obtain ⟨a1, a2, a3⟩ := hf_f_sp hi
    obtain ⟨c1, c2, c3⟩ := hf_f_sp hjq
    have es : hf_sig P D F th v d o g j = hf_f P D F th d o g j := by
      unfold hf_sig; rw [if_pos hjq]
    rw [es]
    refine hf_sg0 ?_
    cases z : hb (F (hf_pn P (hf_f P D F th d o g i))) (hf_f P D F th d o g j) with
    | false => rfl
    | true =>
      exfalso
      have ne : ¬ hf_f P D F th d o g i = hf_f P D F th d o g j := fun e => by
        have := hf_f_inj hC hi hjq e
        omega
      obtain ⟨y1, y2, y3⟩ := hC.1.1 j0 (by omega)
      have f64 := hC.1.1 (o - 1 - ki (hf_lb P D F th d o g) o j) (by omega)
      obtain ⟨i1, l1, l2⟩ := y3 (hf_f P D F th d o g j) f64.1 f64.2.1 (by
        rw [ej0]
        refine Or.inr ⟨hf_f P D F th d o g i, ?_, b2, by rw [z, decide_eq_false ne]; rfl⟩
        exact (hC.1.1 (o - 1 - ki (hf_lb P D F th d o g) o i) (by omega)).1)
      have e1 := hC.1.2 i1 (o - 1 - ki (hf_lb P D F th d o g) o j) (by omega) (by omega) l2
      have lt : ki (hf_lb P D F th d o g) o j < ki (hf_lb P D F th d o g) o i := by
        rcases Nat.lt_or_ge (ki (hf_lb P D F th d o g) o j) (ki (hf_lb P D F th d o g) o i) with z | z
        · exact z
        · have := cp_le (hf_lb P D F th d o g) z
          omega
      omega
  have p_u : ∀ i, i < hf_q P D F th d o g → hf_sg L F (hf_sig P D F th v d o g i) (hf_pn P (hf_f P D F th d o g i)) * hf_sg L F (hf_sig P D F th v d o g i) (hf_pn P (hf_f P D F th d o g i)) = 1 := by
    intro i hi
    obtain ⟨_, _, _, b4, _⟩ := pr i hi
    rw [show hf_sig P D F th v d o g i = hf_f P D F th d o g i by unfold hf_sig; rw [if_pos hi], hf_sgq, if_pos b4]
  have x_N : ∀ r, r < a → ex_sq (hf_q P D F th d o g + cp (hb v) 64) (fun j => (fun c => (if c = kr r then (1 : Int) else 0) + hf_su P L D F d g (fun y => if y = kr r then 1 else 0) o c) (hf_sig P D F th v d o g j)) ≤ (N : Int) := by
    intro r hr
    refine Int.le_trans (hf_sq (S := F (kr r)) hC hv1 (fun j hj => hf_E0_sq hC.1.2 (fun e => ?_))) (Int.ofNat_le.mpr (hdeg _ (hkr r hr).1 (hkr r hr).2))
    have h1 := sD j hj
    rw [e] at h1
    exact nI_ne (by omega) (by omega) (show d + 1 ≠ d by omega) ((hkr r hr).2.symm.trans h1)
  have val : ∀ r j, r < a → j < cp (hb v) 64 → hf_fo P L D F d o g (fun y => if y = kr r then 1 else 0) o (ki (hb v) 64 j) = ef_fl (fun i j => hf_sg L F (hf_sig P D F th v d o g j) (hf_pn P (hf_f P D F th d o g i))) (fun j => (fun c => (if c = kr r then (1 : Int) else 0) + hf_su P L D F d g (fun y => if y = kr r then 1 else 0) o c) (hf_sig P D F th v d o g j)) (hf_q P D F th d o g) (hf_q P D F th d o g + j) := by
    intro r j hr hj
    obtain ⟨k1, k2, _⟩ := ki_sp (hb v) 64 hj
    obtain ⟨c1, c2, c3⟩ := hv _ k2
    have e := hf_fold (P := P) (L := L) (V := fun y => if y = kr r then 1 else 0) hC hd o (Nat.le_refl o) (ki (hb v) 64 j) c1 c3 (fun _ _ _ _ => c2)
    rw [Nat.sub_self] at e
    have e : hf_fo P L D F d o g (fun y => if y = kr r then 1 else 0) o (ki (hb v) 64 j) + 0 = _ := e
    rw [Int.add_zero] at e
    rw [e]
    have f := hf_E_fl (L := L) (v := v) (d := d) (E0 := fun c => (if c = kr r then (1 : Int) else 0) + hf_su P L D F d g (fun y => if y = kr r then 1 else 0) o c) hC o (Nat.le_refl o) (hf_q P D F th d o g + j)
    rw [show hf_sig P D F th v d o g (hf_q P D F th d o g + j) = ki (hb v) 64 j by unfold hf_sig; rw [if_neg (by omega), Nat.add_sub_cancel_left]] at f
    exact f.symm
  refine ⟨?_, fun r j hr hj => ?_⟩
  · obtain ⟨w, C, h⟩ := ef_table (q := hf_q P D F th d o g) (n := cp (hb v) 64) (a := a) (N := (N : Int)) (T := fun r j => hf_fo P L D F d o g (fun y => if y = kr r then 1 else 0) o (ki (hb v) 64 j)) p_N p_t p_u x_N val
    exact ⟨w, C, _, h⟩
  · rw [val r j hr hj]
    exact ef_chain_bound (n := hf_q P D F th d o g + cp (hb v) 64) (Nat.le_add_right _ _) p_N p_t p_u (x_N r hr) (Nat.le_refl _) (by omega)
/-- how many there are -/
theorem hf_count {P D : Nat → Int32} {F : Nat → Int64} {th u v : Int64} {d o m : Nat} {g : Nat → Nat} (hC : hf_cx P D F th o g) (hd : d < 4) (hm : ∀ k x, k < 64 → hb (F k) x = true → k < m) (hv : ∀ c, hb v c = true → c < m ∧ hf_lw P D F th d c = false ∧ D c = nI d) (hu : ∀ k, hb u k = true → k < m ∧ D k = nI (d + 1) ∧ P k = -1) : cp (hb u) 64 + hf_q P D F th d o g ≤ cp (fun k => decide (k < m) && decide (D k = nI (d + 1))) 64 ∧ cp (hb v) 64 + hf_q P D F th d o g ≤ cp (fun k => decide (k < m) && decide (D k = nI d)) 64 := by
  have pr : ∀ i, i < hf_q P D F th d o g → hf_pn P (hf_f P D F th d o g i) < 64 ∧ P (hf_pn P (hf_f P D F th d o g i)) = nI (hf_f P D F th d o g i) ∧ D (hf_pn P (hf_f P D F th d o g i)) = nI (d + 1) ∧ hb (F (hf_pn P (hf_f P D F th d o g i))) (hf_f P D F th d o g i) = true ∧ D (hf_f P D F th d o g i) = nI d ∧ ∃ j, j < o - 1 - ki (hf_lb P D F th d o g) o i ∧ g j = hf_pn P (hf_f P D F th d o g i) := by
    intro i hi
    obtain ⟨a1, a2, _⟩ := hf_f_sp hi
    exact hf_pair hC hd (show o - 1 - ki (hf_lb P D F th d o g) o i < o by omega) a2
  have two : ∀ (Z : Nat → Bool) (s : Int64) (f : Nat → Nat), (∀ k, hb s k = true → k < 64 ∧ Z k = true) → (∀ i, i < hf_q P D F th d o g → f i < 64 ∧ Z (f i) = true ∧ hb s (f i) = false) → (∀ i j, i < hf_q P D F th d o g → j < hf_q P D F th d o g → f i = f j → i = j) → cp (hb s) 64 + hf_q P D F th d o g ≤ cp Z 64 := by
    intro Z s f h1 h2 h3
    obtain ⟨q, hq⟩ : ∃ q, q = hf_q P D F th d o g := ⟨_, rfl⟩
    rw [← hq] at h2 h3 ⊢
    have all : ∀ (n : Nat) (W : Nat → Bool), n ≤ cp (hb s) 64 + q → (∀ j, j < n → W j = true) → cp W n = n := by
      intro n W
      induction n with
      | zero => intro _ _; rfl
      | succ n ih =>
        intro hn hW
        show cp W n + (if W n = true then 1 else 0) = n + 1
        rw [ih (by omega) (fun j hj => hW j (by omega)), if_pos (hW n (by omega))]
    have e := all (cp (hb s) 64 + q) (fun _ => true) (Nat.le_refl _) (fun _ _ => rfl)
    have i := cp_inj (P := fun _ => true) (g := fun j => if j < cp (hb s) 64 then ki (hb s) 64 j else f (j - cp (hb s) 64)) (L := 64) (cp (hb s) 64 + q) Z (fun j hj _ => by
      show (if j < cp (hb s) 64 then ki (hb s) 64 j else f (j - cp (hb s) 64)) < 64 ∧ Z (if j < cp (hb s) 64 then ki (hb s) 64 j else f (j - cp (hb s) 64)) = true
      by_cases a : j < cp (hb s) 64
      · rw [if_pos a]; exact h1 _ (ki_sp (hb s) 64 a).2.1
      · rw [if_neg a]
        obtain ⟨x1, x2, _⟩ := h2 (j - cp (hb s) 64) (by omega)
        exact ⟨x1, x2⟩) (fun i j hi hj _ _ e => by
      have e : (if i < cp (hb s) 64 then ki (hb s) 64 i else f (i - cp (hb s) 64)) = (if j < cp (hb s) 64 then ki (hb s) 64 j else f (j - cp (hb s) 64)) := e
      by_cases a : i < cp (hb s) 64
      · by_cases b : j < cp (hb s) 64
        · rw [if_pos a, if_pos b] at e
          have c1 := (ki_sp (hb s) 64 a).2.2
          have c2 := (ki_sp (hb s) 64 b).2.2
          rw [e, c2] at c1; exact c1.symm
        · rw [if_pos a, if_neg b] at e
          have c1 := (ki_sp (hb s) 64 a).2.1
          rw [e, (h2 (j - cp (hb s) 64) (by omega)).2.2] at c1
          exact absurd c1 (by decide)
      · by_cases b : j < cp (hb s) 64
        · rw [if_neg a, if_pos b] at e
          have c1 := (ki_sp (hb s) 64 b).2.1
          rw [← e, (h2 (i - cp (hb s) 64) (by omega)).2.2] at c1
          exact absurd c1 (by decide)
        · rw [if_neg a, if_neg b] at e
          have := h3 _ _ (by omega) (by omega) e
          omega)
    omega
  refine ⟨two _ u (fun i => hf_pn P (hf_f P D F th d o g i)) (fun k hk => ?_) (fun i hi => ?_) (fun i j hi hj e => ?_), two _ v (hf_f P D F th d o g) (fun k hk => ?_) (fun i hi => ?_) (fun i j hi hj e => hf_f_inj hC hi hj e)⟩
  · obtain ⟨a, b, _⟩ := hu k hk
    refine ⟨Nat.lt_of_not_le (fun q => by rw [hb_big q] at hk; exact absurd hk (by decide)), by rw [decide_eq_true a, decide_eq_true b]; rfl⟩
  · obtain ⟨b1, b2, b3, b4, b5, _⟩ := pr i hi
    refine ⟨b1, by rw [decide_eq_true (hm _ _ b1 b4), decide_eq_true b3]; rfl, ?_⟩
    cases z : hb u (hf_pn P (hf_f P D F th d o g i)) with
    | false => rfl
    | true =>
      have e1 := (hu _ z).2.2
      have e2 := congrArg Int32.toInt (e1.symm.trans b2)
      have f64 := (hC.1.1 (o - 1 - ki (hf_lb P D F th d o g) o i) (by have := (hf_f_sp hi).1; omega)).1
      rw [nI_toInt (by have : hf_f P D F th d o g i < 64 := f64; omega)] at e2
      have w : (-1 : Int) = ((hf_f P D F th d o g i : Nat) : Int) := e2
      omega
  · obtain ⟨b1, b2, _⟩ := pr i hi
    obtain ⟨c1, c2, _⟩ := pr j hj
    have e' : hf_pn P (hf_f P D F th d o g i) = hf_pn P (hf_f P D F th d o g j) := e
    have f64 := (hC.1.1 (o - 1 - ki (hf_lb P D F th d o g) o i) (by have := (hf_f_sp hi).1; omega)).1
    have g64 := (hC.1.1 (o - 1 - ki (hf_lb P D F th d o g) o j) (by have := (hf_f_sp hj).1; omega)).1
    have b2 : P (hf_pn P (hf_f P D F th d o g i)) = nI (hf_f P D F th d o g i) := b2
    have c2 : P (hf_pn P (hf_f P D F th d o g j)) = nI (hf_f P D F th d o g j) := c2
    rw [e'] at b2
    have f64 : hf_f P D F th d o g i < 64 := f64
    have g64 : hf_f P D F th d o g j < 64 := g64
    exact hf_f_inj hC hi hj ((nI_eq (by omega) (by omega)).mp (b2.symm.trans c2))
  · obtain ⟨a, _, b⟩ := hv k hk
    refine ⟨Nat.lt_of_not_le (fun q => by rw [hb_big q] at hk; exact absurd hk (by decide)), by rw [decide_eq_true a, decide_eq_true b]; rfl⟩
  · obtain ⟨b1, b2, b3, b4, b5, _⟩ := pr i hi
    have f64 := (hC.1.1 (o - 1 - ki (hf_lb P D F th d o g) o i) (by have := (hf_f_sp hi).1; omega)).1
    have f64 : hf_f P D F th d o g i < 64 := f64
    have kl : hf_pn P (hf_f P D F th d o g i) < m := hm _ _ b1 b4
    have fl : hf_f P D F th d o g i < hf_pn P (hf_f P D F th d o g i) := (hC.2.1 _ _ b1 b4).1
    refine ⟨f64, by rw [decide_eq_true (show hf_f P D F th d o g i < m by omega), decide_eq_true b5]; rfl, ?_⟩
    cases z : hb v (hf_f P D F th d o g i) with
    | false => rfl
    | true =>
      have := (hf_f_sp hi).2.1
      rw [(hv _ z).2.1] at this
      exact absurd this (by decide)
