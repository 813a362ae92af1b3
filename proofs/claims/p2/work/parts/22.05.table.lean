/-! ===== tables by INCIDENCES are tables behind paired rows ===== -/
def ki (P : Nat → Bool) : Nat → Nat → Nat | 0, _ => 0 | m + 1, c => if P m = true ∧ cp P m = c then m else ki P m c
theorem ki_sp (P : Nat → Bool) {c : Nat} : ∀ m, c < cp P m → ki P m c < m ∧ P (ki P m c) = true ∧ cp P (ki P m c) = c
  | 0, h => absurd (show c < 0 from h) (Nat.not_lt_zero c)
  | m + 1, h => by
    show (if P m = true ∧ cp P m = c then m else ki P m c) < m + 1 ∧ P (if P m = true ∧ cp P m = c then m else ki P m c) = true ∧ cp P (if P m = true ∧ cp P m = c then m else ki P m c) = c
    by_cases q : P m = true ∧ cp P m = c
    · rw [if_pos q]; exact ⟨by omega, q.1, q.2⟩
    · rw [if_neg q]
      have h : c < cp P m + (if P m = true then 1 else 0) := h
      have l : c < cp P m := by
        by_cases r : P m = true
        · rw [if_pos r] at h
          have : cp P m ≠ c := fun z => q ⟨r, z⟩
          omega
        · rw [if_neg r] at h; omega
      obtain ⟨a, b, e⟩ := ki_sp P m l
      exact ⟨by omega, b, e⟩
theorem cp_st (P : Nat → Bool) {i j : Nat} (h : P i = true) (hij : i < j) : cp P i < cp P j := by
  have a := cp_le P (show i + 1 ≤ j by omega)
  have b : cp P (i + 1) = cp P i + 1 := by
    show cp P i + (if P i = true then 1 else 0) = _
    rw [if_pos h]
  omega
theorem cp_one (P : Nat → Bool) {i j : Nat} (hi : P i = true) (hj : P j = true) (h : cp P i = cp P j) : i = j := by
  rcases Nat.lt_trichotomy i j with z | z | z
  · have := cp_st P hi z; omega
  · exact z
  · have := cp_st P hj z; omega
theorem ki_inv (P : Nat → Bool) {i m : Nat} (h : P i = true) (hi : i < m) : ki P m (cp P i) = i := by
  obtain ⟨_, b, c⟩ := ki_sp P m (cp_st P h hi)
  exact cp_one P b h c
theorem cp_inj {P : Nat → Bool} {g : Nat → Nat} {L : Nat} : ∀ (n : Nat) (R : Nat → Bool), (∀ j, j < n → P j = true → g j < L ∧ R (g j) = true) → (∀ i j, i < n → j < n → P i = true → P j = true → g i = g j → i = j) → cp P n ≤ cp R L
  | 0, R, _, _ => Nat.zero_le _
  | n + 1, R, h, inj => by
    show cp P n + (if P n = true then 1 else 0) ≤ cp R L
    by_cases q : P n = true
    · rw [if_pos q]
      obtain ⟨l, r⟩ := h n (by omega) q
      have e := cp_rem R r L
      rw [if_pos l] at e
      have i := cp_inj n (fun x => R x && !decide (x = g n)) (fun j hj pj => by
        obtain ⟨a, b⟩ := h j (by omega) pj
        refine ⟨a, ?_⟩
        rw [b, decide_eq_false (fun z => by
          have := inj j n (by omega) (by omega) pj q z
          omega)]
        rfl) (fun i j hi hj => inj i j (by omega) (by omega))
      omega
    · rw [if_neg q]
      exact cp_inj n R (fun j hj => h j (by omega)) (fun i j hi hj => inj i j (by omega) (by omega))
theorem ex_sq_cp {n : Nat} {y : Nat → Int} {P : Nat → Bool} : ∀ m, m ≤ n → (∀ j, j < n → y j * y j ≤ (if P j = true then 1 else 0)) → ex_sq m y ≤ (cp P m : Int)
  | 0, _, _ => Int.le_refl 0
  | m + 1, hm, h => by
    have a := ex_sq_cp m (by omega) h
    have b := h m (by omega)
    show ex_sq m y + y m * y m ≤ ((cp P m + (if P m = true then 1 else 0) : Nat) : Int)
    by_cases q : P m = true
    · rw [if_pos q] at b ⊢; omega
    · rw [if_neg q] at b ⊢; omega
theorem hf_sgq (L : Nat → Int32) (F : Nat → Int64) (c k : Nat) : hf_sg L F c k * hf_sg L F c k = if hb (F k) c = true then 1 else 0 := by
  unfold hf_sg
  split
  · split <;> rfl
  · rfl
theorem hf_bsq (P L : Nat → Int32) (F : Nat → Int64) (k c : Nat) : hf_bs P L F k c * hf_bs P L F k c ≤ if hb (F k) c = true then 1 else 0 := by
  unfold hf_bs
  split
  · rw [hf_sgq]; exact Int.le_refl _
  · rw [Int.mul_zero]; split <;> decide
/-- a PAIR that is gone through -/
theorem hf_pair {P D : Nat → Int32} {F : Nat → Int64} {th : Int64} {d o n : Nat} {g : Nat → Nat} (hC : hf_cx P D F th o g) (hd : d < 4) (hn : n < o) (lw : hf_lw P D F th d (g n) = true) : hf_pn P (g n) < 64 ∧ P (hf_pn P (g n)) = nI (g n) ∧ D (hf_pn P (g n)) = nI (d + 1) ∧ hb (F (hf_pn P (g n))) (g n) = true ∧ D (g n) = nI d ∧ ∃ j, j < n ∧ g j = hf_pn P (g n) := by
  obtain ⟨⟨ok1, ok2⟩, hF, hP⟩ := hC
  obtain ⟨k64, kth, kst⟩ := ok1 n hn
  unfold hf_lw at lw
  simp only [Bool.and_eq_true, decide_eq_true_eq] at lw
  obtain ⟨l1, l2, l3, l4⟩ := lw
  obtain ⟨p64, Pk⟩ := hf_pn_lt (hP _ k64) l2
  obtain ⟨e, e4, q1, q2⟩ := (hF _ _ p64 l3).2
  have ed : e = d := (nI_eq (by omega) (by omega)).mp (q2.symm.trans l1)
  rw [ed] at q1
  have fkp : hb (F (g n)) (hf_pn P (g n)) = false := by
    cases z : hb (F (g n)) (hf_pn P (g n)) with
    | false => rfl
    | true => have := (hF _ _ k64 z).1; omega
  obtain ⟨j0, j0n, ej0⟩ := kst _ p64 l4 (Or.inr ⟨_, p64, Pk, by rw [fkp, decide_eq_true rfl]; rfl⟩)
  have before : ht_s P F (hf_pn P (g n)) (g n) → False := by
    intro hs'
    obtain ⟨y1, y2, y3⟩ := ok1 j0 (by omega)
    obtain ⟨i, i1, i2⟩ := y3 (g n) k64 kth (by rw [ej0]; exact hs')
    have := ok2 i n (by omega) hn i2
    omega
  refine ⟨p64, ?_, q1, l3, l1, j0, j0n, ej0⟩
  rcases hP _ p64 with z | ⟨x, x64, ex⟩
  · exact absurd (before (Or.inl ⟨z, l3⟩)) id
  · by_cases xk : x = g n
    · exact ex.trans (congrArg nI xk)
    · exact absurd (before (Or.inr ⟨x, x64, ex, by rw [l3, decide_eq_false xk]; rfl⟩)) id
/-- the lowers, in the order in which they are gone through -/
def hf_lb (P D : Nat → Int32) (F : Nat → Int64) (th : Int64) (d o : Nat) (g : Nat → Nat) (s : Nat) : Bool := decide (s < o) && hf_lw P D F th d (g (o - 1 - s))
def hf_q (P D : Nat → Int32) (F : Nat → Int64) (th : Int64) (d o : Nat) (g : Nat → Nat) : Nat := cp (hf_lb P D F th d o g) o
def hf_f (P D : Nat → Int32) (F : Nat → Int64) (th : Int64) (d o : Nat) (g : Nat → Nat) (i : Nat) : Nat := g (o - 1 - ki (hf_lb P D F th d o g) o i)
theorem hf_f_sp {P D : Nat → Int32} {F : Nat → Int64} {th : Int64} {d o i : Nat} {g : Nat → Nat} (h : i < hf_q P D F th d o g) : ki (hf_lb P D F th d o g) o i < o ∧ hf_lw P D F th d (hf_f P D F th d o g i) = true ∧ cp (hf_lb P D F th d o g) (ki (hf_lb P D F th d o g) o i) = i := by
  obtain ⟨a, b, c⟩ := ki_sp (hf_lb P D F th d o g) o h
  refine ⟨a, ?_, c⟩
  unfold hf_lb at b
  rw [Bool.and_eq_true] at b
  exact b.2
theorem hf_f_inj {P D : Nat → Int32} {F : Nat → Int64} {th : Int64} {d o i j : Nat} {g : Nat → Nat} (hC : hf_cx P D F th o g) (hi : i < hf_q P D F th d o g) (hj : j < hf_q P D F th d o g) (h : hf_f P D F th d o g i = hf_f P D F th d o g j) : i = j := by
  obtain ⟨a, _, c⟩ := hf_f_sp hi
  obtain ⟨a', _, c'⟩ := hf_f_sp hj
  have := hC.1.2 _ _ (by omega) (by omega) h
  have : ki (hf_lb P D F th d o g) o i = ki (hf_lb P D F th d o g) o j := by omega
  rw [← c, ← c', this]
def hf_sig (P D : Nat → Int32) (F : Nat → Int64) (th v : Int64) (d o : Nat) (g : Nat → Nat) (j : Nat) : Nat := if j < hf_q P D F th d o g then hf_f P D F th d o g j else ki (hb v) 64 (j - hf_q P D F th d o g)
theorem hf_sig_inj {P D : Nat → Int32} {F : Nat → Int64} {th v : Int64} {d o i j : Nat} {g : Nat → Nat} (hC : hf_cx P D F th o g) (hv : ∀ c, hb v c = true → hf_lw P D F th d c = false) (hi : i < hf_q P D F th d o g + cp (hb v) 64) (hj : j < hf_q P D F th d o g + cp (hb v) 64) (h : hf_sig P D F th v d o g i = hf_sig P D F th v d o g j) : i = j := by
  unfold hf_sig at h
  have mix : ∀ x y, x < hf_q P D F th d o g → y < cp (hb v) 64 → hf_f P D F th d o g x = ki (hb v) 64 y → False := by
    intro x y hx hy e
    obtain ⟨_, b, _⟩ := hf_f_sp hx
    obtain ⟨_, b', _⟩ := ki_sp (hb v) 64 hy
    rw [e, hv _ b'] at b
    exact absurd b (by decide)
  by_cases a : i < hf_q P D F th d o g
  · by_cases b : j < hf_q P D F th d o g
    · rw [if_pos a, if_pos b] at h; exact hf_f_inj hC a b h
    · rw [if_pos a, if_neg b] at h; exact absurd (mix _ _ a (by omega) h) id
  · by_cases b : j < hf_q P D F th d o g
    · rw [if_neg a, if_pos b] at h; exact absurd (mix _ _ b (by omega) h.symm) id
    · rw [if_neg a, if_neg b] at h
      obtain ⟨_, _, c⟩ := ki_sp (hb v) 64 (show i - hf_q P D F th d o g < cp (hb v) 64 by omega)
      obtain ⟨_, _, c'⟩ := ki_sp (hb v) 64 (show j - hf_q P D F th d o g < cp (hb v) 64 by omega)
      rw [h, c'] at c
      omega
theorem hf_sig_64 {P D : Nat → Int32} {F : Nat → Int64} {th v : Int64} {d o j : Nat} {g : Nat → Nat} (hC : hf_cx P D F th o g) (hj : j < hf_q P D F th d o g + cp (hb v) 64) : hf_sig P D F th v d o g j < 64 := by
  unfold hf_sig
  by_cases a : j < hf_q P D F th d o g
  · rw [if_pos a]
    obtain ⟨b, _, _⟩ := hf_f_sp a
    exact (hC.1.1 _ (by omega)).1
  · rw [if_neg a]
    exact (ki_sp (hb v) 64 (show j - hf_q P D F th d o g < cp (hb v) 64 by omega)).1
theorem hf_sq {P D : Nat → Int32} {F : Nat → Int64} {th v S : Int64} {d o : Nat} {g : Nat → Nat} {y : Nat → Int} (hC : hf_cx P D F th o g) (hv : ∀ c, hb v c = true → hf_lw P D F th d c = false) (hy : ∀ j, j < hf_q P D F th d o g + cp (hb v) 64 → y j * y j ≤ if hb S (hf_sig P D F th v d o g j) = true then 1 else 0) : ex_sq (hf_q P D F th d o g + cp (hb v) 64) y ≤ (cp (hb S) 64 : Int) := by
  refine Int.le_trans (ex_sq_cp (P := fun j => hb S (hf_sig P D F th v d o g j)) _ (Nat.le_refl _) hy) ?_
  exact Int.ofNat_le.mpr (cp_inj (g := hf_sig P D F th v d o g) _ (hb S) (fun j hj pj => ⟨hf_sig_64 hC hj, pj⟩) (fun i j hi hj _ _ e => hf_sig_inj hC hv hi hj e))
