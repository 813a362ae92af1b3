/-! ===== what comes down to the columns is the chain behind the PAIRS in HEIGHTS' order ===== -/
def hf_bs (P L : Nat → Int32) (F : Nat → Int64) (k c : Nat) : Int := if hf_b P F k c = true then hf_sg L F c k else 0
def hf_su (P L D : Nat → Int32) (F : Nat → Int64) (d : Nat) (g : Nat → Nat) (V : Nat → Int) : Nat → Nat → Int | 0, _ => 0 | n + 1, c => hf_su P L D F d g V n c + (if D (g n) = nI (d + 1) then V (g n) * hf_bs P L F (g n) c else 0)
def hf_lw (P D : Nat → Int32) (F : Nat → Int64) (th : Int64) (d k : Nat) : Bool := decide (D k = nI d) && (decide (k < hf_pn P k) && (hb (F (hf_pn P k)) k && hb th (hf_pn P k)))
def hf_E (P L D : Nat → Int32) (F : Nat → Int64) (th : Int64) (d o : Nat) (g : Nat → Nat) (E0 : Nat → Int) : Nat → Nat → Int | 0 => E0 | s + 1 => fun c => if hf_lw P D F th d (g (o - 1 - s)) = true then hf_E P L D F th d o g E0 s c - hf_E P L D F th d o g E0 s (g (o - 1 - s)) * hf_sg L F (g (o - 1 - s)) (hf_pn P (g (o - 1 - s))) * hf_sg L F c (hf_pn P (g (o - 1 - s))) else hf_E P L D F th d o g E0 s c
def hf_cx (P D : Nat → Int32) (F : Nat → Int64) (th : Int64) (o : Nat) (g : Nat → Nat) : Prop := ht_ok th (ht_s P F) o g ∧ (∀ k x, k < 64 → hb (F k) x = true → x < k ∧ ∃ e, e < 4 ∧ D k = nI (e + 1) ∧ D x = nI e) ∧ ∀ k, k < 64 → hx_p (P k)
theorem hf_sg0 {L : Nat → Int32} {F : Nat → Int64} {c k : Nat} (h : hb (F k) c = false) : hf_sg L F c k = 0 := by
  unfold hf_sg; rw [if_neg (by rw [h]; decide)]
theorem hf_b_s {P : Nat → Int32} {F : Nat → Int64} {k c : Nat} (hp : hx_p (P k)) (hc : c < 64) (h : hf_b P F k c = true) : ht_s P F k c := by
  unfold hf_b at h
  rw [Bool.and_eq_true] at h
  rcases hp with z | ⟨p, p64, ep⟩
  · exact Or.inl ⟨z, h.1⟩
  · refine Or.inr ⟨p, p64, ep, ?_⟩
    have ne : ¬ p = c := fun q => by
      have := h.2
      rw [ep, q, decide_eq_true rfl] at this
      exact absurd this (by decide)
    rw [h.1, decide_eq_false ne]; rfl
theorem hf_su0 {P L D : Nat → Int32} {F : Nat → Int64} {d c : Nat} {g : Nat → Nat} {V : Nat → Int} : ∀ n, (∀ j, j < n → D (g j) = nI (d + 1) → hf_b P F (g j) c = false) → hf_su P L D F d g V n c = 0
  | 0, _ => rfl
  | n + 1, h => by
    show hf_su P L D F d g V n c + (if D (g n) = nI (d + 1) then V (g n) * hf_bs P L F (g n) c else 0) = 0
    rw [hf_su0 n (fun j hj => h j (by omega)), Int.zero_add]
    split
    · rename_i q
      unfold hf_bs
      rw [if_neg (by rw [h n (by omega) q]; decide), Int.mul_zero]
    · rfl
theorem hf_su_e {P L D : Nat → Int32} {F : Nat → Int64} {d c : Nat} {g : Nat → Nat} {V W : Nat → Int} : ∀ n, (∀ j, j < n → D (g j) = nI (d + 1) → W (g j) = V (g j)) → hf_su P L D F d g W n c = hf_su P L D F d g V n c
  | 0, _ => rfl
  | n + 1, h => by
    show hf_su P L D F d g W n c + (if D (g n) = nI (d + 1) then W (g n) * hf_bs P L F (g n) c else 0) = hf_su P L D F d g V n c + (if D (g n) = nI (d + 1) then V (g n) * hf_bs P L F (g n) c else 0)
    rw [hf_su_e n (fun j hj => h j (by omega))]
    by_cases q : D (g n) = nI (d + 1)
    · rw [if_pos q, if_pos q, h n (by omega) q]
    · rw [if_neg q, if_neg q]
theorem hf_su_at {P L D : Nat → Int32} {F : Nat → Int64} {d c p : Nat} {x : Int} {g : Nat → Nat} {V W : Nat → Int} (hD : D p = nI (d + 1)) (hW : ∀ y, W y = V y - (if y = p then x else 0)) : ∀ n, (∀ i j, i < n → j < n → g i = g j → i = j) → (∃ j, j < n ∧ g j = p) → hf_su P L D F d g W n c = hf_su P L D F d g V n c - x * hf_bs P L F p c
  | 0, _, h => by obtain ⟨j, hj, _⟩ := h; omega
  | n + 1, inj, h => by
    show hf_su P L D F d g W n c + (if D (g n) = nI (d + 1) then W (g n) * hf_bs P L F (g n) c else 0) = hf_su P L D F d g V n c + (if D (g n) = nI (d + 1) then V (g n) * hf_bs P L F (g n) c else 0) - x * hf_bs P L F p c
    by_cases q : g n = p
    · rw [hf_su_e (V := V) (W := W) n (fun j hj _ => by
        rw [hW, if_neg (fun z => by
          have := inj j n (by omega) (by omega) (z.trans q.symm)
          omega), Int.sub_zero])]
      rw [q, if_pos hD, if_pos hD, hW p, if_pos rfl, Int.sub_mul]
      omega
    · obtain ⟨j, hj, ej⟩ := h
      have jn : j < n := by
        rcases Nat.lt_or_ge j n with z | z
        · exact z
        · have : j = n := by omega
          rw [this] at ej; exact absurd ej q
      rw [hf_su_at hD hW n (fun i j hi hj => inj i j (by omega) (by omega)) ⟨j, jn, ej⟩]
      rw [hW (g n), if_neg q, Int.sub_zero]
      omega
theorem nI_ne {a b : Nat} (ha : a < 100) (hb : b < 100) (h : a ≠ b) : nI a ≠ nI b := fun q => h ((nI_eq (by omega) (by omega)).mp q)
theorem hf_fold {P L D : Nat → Int32} {F : Nat → Int64} {th : Int64} {d o : Nat} {g : Nat → Nat} {V : Nat → Int} (hC : hf_cx P D F th o g) (hd : d < 4) :
    ∀ s, s ≤ o → ∀ c, c < 64 → D c = nI d → (∀ i, o - s ≤ i → i < o → g i = c → hf_lw P D F th d c = false) → hf_fo P L D F d o g V s c + hf_su P L D F d g (hf_fo P L D F d o g V s) (o - s) c = hf_E P L D F th d o g (fun c => V c + hf_su P L D F d g V o c) s c := by
  obtain ⟨⟨ok1, ok2⟩, hF, hP⟩ := hC
  intro s
  induction s with
  | zero => intro _ c _ _ _; rfl
  | succ s ih =>
    intro hs c hc Dc hl
    have ih := ih (by omega)
    obtain ⟨n, hn⟩ : ∃ n, n = o - (s + 1) := ⟨_, rfl⟩
    have en : o - 1 - s = n := by omega
    have en1 : o - s = n + 1 := by omega
    have no : n < o := by omega
    rw [en1] at ih
    rw [← hn] at hl ⊢
    obtain ⟨W, hW⟩ : ∃ W, W = hf_fo P L D F d o g V s := ⟨_, rfl⟩
    obtain ⟨k, hk⟩ : ∃ k, k = g n := ⟨_, rfl⟩
    obtain ⟨E, hE⟩ : ∃ E, E = hf_E P L D F th d o g (fun c => V c + hf_su P L D F d g V o c) s := ⟨_, rfl⟩
    show hf_st P L D F d (g (o - 1 - s)) (hf_fo P L D F d o g V s) c + hf_su P L D F d g (hf_st P L D F d (g (o - 1 - s)) (hf_fo P L D F d o g V s)) n c = (if hf_lw P D F th d (g (o - 1 - s)) = true then hf_E P L D F th d o g _ s c - hf_E P L D F th d o g _ s (g (o - 1 - s)) * hf_sg L F (g (o - 1 - s)) (hf_pn P (g (o - 1 - s))) * hf_sg L F c (hf_pn P (g (o - 1 - s))) else hf_E P L D F th d o g _ s c)
    rw [en, ← hk, ← hW, ← hE]
    rw [← hW, ← hE] at ih
    obtain ⟨k64, kth, kst⟩ := ok1 n no
    rw [← hk] at k64 kth kst
    have ihc := ih c hc Dc (fun i a b e => hl i (by omega) b e)
    have su1 : hf_su P L D F d g W (n + 1) c = hf_su P L D F d g W n c + (if D k = nI (d + 1) then W k * hf_bs P L F k c else 0) := by rw [hk]; rfl
    by_cases D1 : D k = nI (d + 1)
    · -- down
      have nl : hf_lw P D F th d k = false := by
        unfold hf_lw
        rw [decide_eq_false (fun q => nI_ne (by omega) (by omega) (show d ≠ d + 1 by omega) (q.symm.trans D1)), Bool.false_and]
      rw [if_neg (by rw [nl]; decide), ← ihc, su1, if_pos D1]
      unfold hf_st
      rw [if_pos D1]
      rw [hf_su_e (V := W) n (fun j hj Dj => ?_)]
      · unfold hf_bs
        show W c + (if hf_b P F k c = true then W k * hf_sg L F c k else 0) + _ = _
        split <;> omega
      · show W (g j) + (if hf_b P F k (g j) = true then _ else 0) = W (g j)
        rw [if_neg (fun b => ?_), Int.add_zero]
        unfold hf_b at b
        rw [Bool.and_eq_true] at b
        obtain ⟨e, e4, q1, q2⟩ := (hF k (g j) k64 b.1).2
        have a := (nI_eq (by omega) (by omega)).mp (D1.symm.trans q1)
        have b := (nI_eq (by omega) (by omega)).mp (Dj.symm.trans q2)
        omega
    · rw [if_neg D1, Int.add_zero] at su1
      by_cases D2 : D k = nI d ∧ k < hf_pn P k
      · obtain ⟨p64, Pk⟩ := hf_pn_lt (hP k k64) D2.2
        obtain ⟨p, hp⟩ : ∃ p, p = hf_pn P k := ⟨_, rfl⟩
        have kp : k < p := by rw [hp]; exact D2.2
        rw [← hp] at p64 Pk
        have st : hf_st P L D F d k W = fun c => W c - (if c = p then W k * hf_sg L F k p else 0) := by
          unfold hf_st
          rw [if_neg D1, if_pos D2, ← hp]
        rw [st]
        by_cases fk : hb (F p) k = true
        · obtain ⟨e, e4, q1, q2⟩ := (hF p k p64 fk).2
          have ed : e = d := (nI_eq (by omega) (by omega)).mp (q2.symm.trans D2.1)
          rw [ed] at q1
          have cp' : ¬ c = p := fun q => by
            rw [q] at Dc
            exact nI_ne (by omega) (by omega) (show d ≠ d + 1 by omega) (Dc.symm.trans q1)
          by_cases pt : hb th p = true
          · -- a PAIR
            have lw : hf_lw P D F th d k = true := by
              unfold hf_lw
              rw [← hp, decide_eq_true D2.1, decide_eq_true kp, fk, pt]; rfl
            rw [if_pos lw, ← hp]
            have fkp : hb (F k) p = false := by
              cases z : hb (F k) p with
              | false => rfl
              | true => have := (hF k p k64 z).1; omega
            obtain ⟨j0, j0n, ej0⟩ := kst p p64 pt (Or.inr ⟨p, p64, Pk, by rw [fkp, decide_eq_true rfl]; rfl⟩)
            have before : ∀ x, x < 64 → ∀ j, j < n → g j = x → ht_s P F x k → False := by
              intro x hx j hj ej hs'
              obtain ⟨y1, y2, y3⟩ := ok1 j (by omega)
              obtain ⟨i, i1, i2⟩ := y3 k k64 kth (by rw [ej]; exact hs')
              have := ok2 i n (by omega) no (i2.trans hk)
              omega
            have Pp : P p = nI k := by
              rcases hP p p64 with z | ⟨x, x64, ex⟩
              · exact absurd (before p p64 j0 j0n ej0 (Or.inl ⟨z, fk⟩)) id
              · by_cases xk : x = k
                · rw [← xk]; exact ex
                · exact absurd (before p p64 j0 j0n ej0 (Or.inr ⟨x, x64, ex, by rw [fk, decide_eq_false xk]; rfl⟩)) id
            have Wk : W k = E k := by
              have := ih k k64 D2.1 (fun i a b ei => by
                have := ok2 i n (by omega) no (ei.trans hk)
                omega)
              rw [← this, hf_su0 (n + 1) (fun j hj Dj => ?_), Int.add_zero]
              cases z : hf_b P F (g j) k with
              | false => rfl
              | true =>
                exfalso
                have jn : j ≠ n := fun q => by rw [q, ← hk] at Dj; exact D1 Dj
                have y64 := (ok1 j (by omega)).1
                exact before (g j) y64 j (by omega) rfl (hf_b_s (hP _ y64) k64 z)
            rw [hf_su_at (V := W) (x := W k * hf_sg L F k p) q1 (fun y => rfl) n (fun i j hi hj => ok2 i j (by omega) (by omega)) ⟨j0, j0n, ej0⟩]
            show W c - (if c = p then _ else 0) + _ = _
            rw [if_neg cp', Int.sub_zero, ← ihc, su1, ← Wk]
            have ck : ¬ c = k := fun q => by
              have := hl n (Nat.le_refl n) no (by rw [← hk, q])
              rw [q, lw] at this; exact absurd this (by decide)
            have bs : hf_bs P L F p c = hf_sg L F c p := by
              unfold hf_bs hf_b
              rw [Pp, decide_eq_false (fun z => ck ((nI_eq (by omega) (by omega)).mp z).symm)]
              cases z : hb (F p) c with
              | true => rfl
              | false => rw [hf_sg0 z]; rfl
            rw [bs]; omega
          · have lw : hf_lw P D F th d k = false := by
              unfold hf_lw
              rw [← hp]
              cases z : hb th p with
              | true => exact absurd z pt
              | false => simp
            rw [if_neg (by rw [lw]; decide), ← ihc, su1]
            show W c - (if c = p then _ else 0) + _ = _
            rw [if_neg cp', Int.sub_zero, hf_su_e (V := W) n (fun j hj _ => ?_)]
            show W (g j) - (if g j = p then _ else 0) = W (g j)
            rw [if_neg (fun q => pt (by rw [← q]; exact (ok1 j (by omega)).2.1)), Int.sub_zero]
        · have z : hb (F p) k = false := by
            cases z : hb (F p) k with
            | false => rfl
            | true => exact absurd z fk
          have lw : hf_lw P D F th d k = false := by
            unfold hf_lw
            rw [← hp, z]; simp
          have e0 : (fun c => W c - (if c = p then W k * hf_sg L F k p else 0)) = W := by
            funext y
            rw [hf_sg0 z, Int.mul_zero]
            split <;> exact Int.sub_zero _
          rw [e0, if_neg (by rw [lw]; decide), ← ihc, su1]
      · have st : hf_st P L D F d k W = W := by
          unfold hf_st
          rw [if_neg D1, if_neg D2]
        have lw : hf_lw P D F th d k = false := by
          unfold hf_lw
          by_cases a : D k = nI d
          · rw [decide_eq_false (fun q => D2 ⟨a, q⟩)]; simp
          · rw [decide_eq_false a]; simp
        rw [st, if_neg (by rw [lw]; decide), ← ihc, su1]
