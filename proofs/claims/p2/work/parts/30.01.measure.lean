/-! ===== the class: HEIGHTS exactly ===== -/
theorem hT_pig : ∀ (m o : Nat) (g : Nat → Nat), (∀ i, i < o → g i < m) → (∀ i j, i < o → j < o → g i = g j → i = j) → o ≤ m := by
  intro m
  induction m with
  | zero =>
    intro o g h _
    refine Nat.le_of_not_lt (fun q => ?_)
    have := h 0 q
    omega
  | succ m ih =>
    intro o g h inj
    by_cases ex : ∃ i, i < o ∧ g i = m
    · obtain ⟨a, ha, ea⟩ := ex
      have := ih (o - 1) (fun i => if i < a then g i else g (i + 1)) (fun i hi => ?_) (fun i j hi hj e => ?_)
      · omega
      · show (if i < a then g i else g (i + 1)) < m
        by_cases q : i < a
        · rw [if_pos q]
          have l := h i (by omega)
          have ne : g i ≠ m := fun z => by have := inj i a (by omega) ha (z.trans ea.symm); omega
          omega
        · rw [if_neg q]
          have l := h (i + 1) (by omega)
          have ne : g (i + 1) ≠ m := fun z => by have := inj (i + 1) a (by omega) ha (z.trans ea.symm); omega
          omega
      · have e : (if i < a then g i else g (i + 1)) = (if j < a then g j else g (j + 1)) := e
        by_cases q : i < a
        · by_cases r : j < a
          · rw [if_pos q, if_pos r] at e; exact inj i j (by omega) (by omega) e
          · rw [if_pos q, if_neg r] at e; have := inj i (j + 1) (by omega) (by omega) e; omega
        · by_cases r : j < a
          · rw [if_neg q, if_pos r] at e; have := inj (i + 1) j (by omega) (by omega) e; omega
          · rw [if_neg q, if_neg r] at e; have := inj (i + 1) (j + 1) (by omega) (by omega) e; omega
    · have := ih o g (fun i hi => by
        have l := h i hi
        have : g i ≠ m := fun z => ex ⟨i, hi, z⟩
        omega) inj
      omega
def hTq (t : XT) (th : Int64) (P : Nat → Int32) (F : Nat → Int64) (o : Nat) (g h : Nat → Nat) : Prop := t.1 6 = nI o ∧ (∀ j, j < o → t.2.2.1 7 j = nI (g j)) ∧ ht_ok th (ht_s P F) o g ∧ (∀ j, j < o → t.2.2.1 6 (g j) = nI (h (g j))) ∧ (∀ j x, j < o → x < 64 → hb th x = true → ht_s P F (g j) x → h x < h (g j)) ∧ ∀ j, j < o → 0 < h (g j) → ∃ x, x < 64 ∧ hb th x = true ∧ ht_s P F (g j) x ∧ h (g j) ≤ h x + 1
def hTw (m : Nat) (th w : Int64) (P : Nat → Int32) (F : Nat → Int64) (hh : Nat) (h : Nat → Nat) : Prop := ∀ x, x < m → hb w x = true → 0 < hh → ∃ y, y < 64 ∧ hb th y = true ∧ ht_s P F x y ∧ (hb w y = true ∨ h y + 1 = hh)
theorem hT_give_go {m o0 hh : Nat} {w th : Int64} {P : Nat → Int32} {F : Nat → Int64} {t0 : XT} {Q : Int64 → XT → Prop} (hw1 : ∀ x, x < 64 → hb w x = true → hb th x = true) (hPF : t0.2.2.1 5 = P ∧ t0.2.2.2 0 = F)
    (hQ : ∀ v t' o g h, hy_t t' m → ht_fr t0 t' → t'.1 7 = t0.1 7 → o0 ≤ o → hTq t' th P F o g h → (∀ x, x < 64 → hb v x = true → (∃ j, j < o ∧ g j = x) ∧ h x = hh) → (∀ j, j < o → hb w (g j) = true → hb v (g j) = true) → (∀ x, x < 64 → hb th x = true → hb w x = false → ∃ j, j < o ∧ g j = x) → (∀ j, j < o → h (g j) < hh + 1) → (∀ x, x < m → hb w x = true → hb v x = true ∨ ∃ y, y < 64 ∧ hb w y = true ∧ ht_s P F x y) → (∀ j, j < o0 → hb w (g j) = false) → (∀ j, j < o → g j < m) → Q v t') :
    ∀ (d i K o : Nat) (g h : Nat → Nat) (t : XT) (li : Nat → Int32) (lj : Nat → Int64), i + d = m → 2 * d + 10 ≤ K → hy_t t m → ht_fr t0 t → t.1 7 = t0.1 7 → o0 ≤ o → hTq t th P F o g h → (∀ j, j < o → g j < m) → (∀ j, j < o0 → hb w (g j) = false) → (∀ x, x < 64 → hb th x = true → hb w x = false → ∃ j, j < o0 ∧ g j = x) → (∀ x, x < 64 → hb (lj 4) x = true → (∃ j, j < o ∧ g j = x) ∧ h x = hh) → (∀ j, o0 ≤ j → j < o → g j < i ∧ hb (lj 4) (g j) = true ∧ h (g j) = hh) → (∀ j, j < o0 → h (g j) < hh) → (∀ x, x < i → hb w x = true → hb (lj 4) x = true ∨ ∃ y, y < 64 ∧ hb w y = true ∧ ht_s P F x y) → hTw m th w P F hh h → li 6 = nI i → li 1 = nI hh → lj 2 = w → wpX2_give K 1 t li lj Q := by
  intro d
  induction d with
  | zero =>
    intro i K o g h t li lj hd hK hI hf h7 ho hq hgm h1 h2 h3 h4 h5 h6 hW ei el ew
    obtain ⟨K, rfl⟩ : ∃ K', K = K' + 2 := ⟨K - 2, by omega⟩
    have m60 := hI.2.1
    show wbX2_give_1 (wpX2_give (K + 1)) (K + 1) t li lj Q
    refine ⟨fun _ => ?_, fun x => absurd (by rw [hI.1, ei]; exact nI_le (by omega) (by omega)) x⟩
    show wbX2_give_3 (wpX2_give K) K t li lj Q
    refine hQ _ t o g h hI hf h7 ho hq h3 (fun j hj hb1 => ?_) (fun x hx a b => ?_) (fun j hj => ?_) (fun x hx a => h6 x (by omega) a) h1 hgm
    · by_cases q : j < o0
      · rw [h1 j q] at hb1; exact absurd hb1 (by decide)
      · exact (h4 j (by omega) hj).2.1
    · obtain ⟨j, j1, j2⟩ := h2 x hx a b
      exact ⟨j, by omega, j2⟩
    · by_cases q : j < o0
      · have := h5 j q; omega
      · have := (h4 j (by omega) hj).2.2; omega
  | succ d ih =>
    intro i K o g h t li lj hd hK hI hf h7 ho hq hgm h1 h2 h3 h4 h5 h6 hW ei el ew
    obtain ⟨K, rfl⟩ : ∃ K', K = K' + 2 := ⟨K - 2, by omega⟩
    have m60 := hI.2.1
    obtain ⟨q6, q7, hok, qR, qa, qb⟩ := id hq
    have om : o ≤ m := hT_pig m o g hgm (fun j l a b => hok.2 j l a b)
    have stay : (hb w i = true → ∃ y, y < 64 ∧ hb w y = true ∧ ht_s P F i y) → wpX2_give (K + 1) 2 t li lj Q := by
      intro why
      show wbX2_give_2 (wpX2_give K) K t li lj Q
      intro v e
      refine ih (i + 1) K o g h t _ lj (by omega) (by omega) hI hf h7 ho hq hgm h1 h2 h3 (fun j a b => ⟨by have := (h4 j a b).1; omega, (h4 j a b).2⟩) h5 (fun x hx a => ?_) hW (by show v = _; rw [e, ei]; exact hs_inc i) el ew
      by_cases z : x = i
      · rw [z] at a ⊢; exact Or.inr (why a)
      · exact h6 x (by omega) a
    show wbX2_give_1 (wpX2_give (K + 1)) (K + 1) t li lj Q
    unfold wbX2_give_1
    rw [ei, ew]
    refine ⟨fun x => absurd x (by rw [hI.1]; exact nI_ge (by omega) (by omega)), fun _ => ⟨fun x => absurd (show nI 64 ≤ t.1 6 from x) (by rw [q6]; exact nI_ge (by omega) (by omega)), fun y => hw_isIn (by omega) (by omega) (fun bw => ⟨fun x => absurd x (by decide), fun _ => ?_⟩) (fun nb => ⟨fun _ => stay (fun a => absurd (a.symm.trans nb) (by decide)), fun x => absurd rfl x⟩)⟩⟩
    refine ht_steps (by omega) (hI.2.2 i (by omega)) (by omega) (fun v sw sv v6 f6 v7 f7 => ⟨fun nz => stay (fun _ => ?_), fun nz => ?_⟩)
    · rcases @hb_ne v6 with z | ⟨k, k64, kb, _⟩
      · exact absurd (f7.trans (by rw [z]; decide)) nz
      · have kb : hb v6 k = true := kb
        rw [f6, hb_and, Bool.and_eq_true] at kb
        refine ⟨k, k64, kb.2, ?_⟩
        have := sw k k64 kb.1
        rw [hf.2.2.1 5 (by decide) (by decide), hf.2.2.2, hPF.1, hPF.2] at this
        exact this
    refine hw_bit (by omega) (by omega) (fun r9 f9 v10 f10 => ⟨vp_in_nI (by omega) (by decide), fun t11 f11 => ?_⟩)
    have lt : o < 64 := by omega
    have i6 : t11.1 6 = nI o := by rw [f11]; exact q6
    have co : (nI o).toNatClampNeg = o := nI_clamp (by omega)
    have ci : (nI i).toNatClampNeg = i := nI_clamp (by omega)
    refine ⟨by rw [i6]; exact vp_in_nI lt (by decide), fun t12 f12 v13 f13 t14 f14 => ?_⟩
    have g13 : v13 = nI (o + 1) := by rw [f13, f12]; exact (congrArg (· + 1) i6).trans (nI_1 o)
    rw [i6, co] at f12
    have nz : v7 = 0 := nz
    have z6 : ∀ x, hb v6 x = false := fun x => hb_z (f7.symm.trans nz) x
    have sv' : ∀ x, x < 64 → ht_s P F i x → hb w x = false := by
      intro x hx hs
      have a := z6 x
      rw [f6, hb_and] at a
      have b := sv x hx (by
        rw [hf.2.2.1 5 (by decide) (by decide), hf.2.2.2, hPF.1, hPF.2]; exact hs)
      rw [b, Bool.true_and] at a; exact a
    have free : ∀ x, x < 64 → hb th x = true → ht_s P F i x → ∃ j, j < o0 ∧ g j = x := fun x hx hth hs => h2 x hx hth (sv' x hx hs)
    show wbX2_give_2 (wpX2_give K) K t14 li (uI lj 4 v10) Q
    intro v e
    have lower : ∀ j, j < o → g j ≠ i := by
      intro j hj q
      by_cases r : j < o0
      · have := h1 j r
        rw [q, bw] at this; exact absurd this (by decide)
      · have := (h4 j (by omega) hj).1; omega
    have gj : ∀ j, j < o → (if j = o then i else g j) = g j := fun j hj => if_neg (by omega)
    have hj' : ∀ x, x ≠ i → (if x = i then hh else h x) = h x := fun x q => if_neg q
    have row6 : t14.2.2.1 6 = upd (t.2.2.1 6) i (nI hh) := by
      rw [f14, f12, f11]
      show upd (t.2.2.1 6) (nI i).toNatClampNeg (li 1) = _
      rw [ci, el]
    refine ih (i + 1) K (o + 1) (fun j => if j = o then i else g j) (fun x => if x = i then hh else h x) t14 _ _ (by omega) (by omega) ?_ ?_ ?_ (by omega) ⟨?_, ?_, ?_, ?_, ?_, ?_⟩ ?_ ?_ ?_ ?_ ?_ ?_ ?_ ?_ (by show v = _; rw [e, ei]; exact hs_inc i) el ew
    · subst f14 f12 f11
      exact hI
    · refine ht_fr_t hf ?_
      subst f14 f12 f11
      exact ⟨fun j x _ => ht_nI t 6 v13 x, rfl, fun r x y => (ht_nA (sA t 6 (upd (t.2.2.1 6) (nI i).toNatClampNeg (li 1))) 7 _ y).trans (ht_nA t 6 _ x), rfl⟩
    · rw [f14, f12, f11]; exact h7
    · rw [f14]; exact g13
    · intro j hj
      rw [f14, f12]
      show upd (t11.2.2.1 7) o (nI i) j = nI (if j = o then i else g j)
      by_cases x : j = o
      · rw [if_pos x]; exact if_pos x
      · rw [if_neg x, f11]
        exact (if_neg x).trans (q7 j (by omega))
    · obtain ⟨k1, k2⟩ := hok
      refine ⟨fun j hj => ?_, fun j l hj hl => ?_⟩
      · show (if j = o then i else g j) < 64 ∧ hb th (if j = o then i else g j) = true ∧ ∀ x, x < 64 → hb th x = true → ht_s P F (if j = o then i else g j) x → ∃ l, l < j ∧ (if l = o then i else g l) = x
        by_cases x : j = o
        · rw [if_pos x]
          refine ⟨by omega, hw1 i (by omega) bw, fun y hy a b => ?_⟩
          obtain ⟨l, l1, l2⟩ := free y hy a b
          exact ⟨l, by omega, (if_neg (by omega)).trans l2⟩
        · rw [if_neg x]
          obtain ⟨b1, b2, b3⟩ := k1 j (by omega)
          refine ⟨b1, b2, fun y hy a b => ?_⟩
          obtain ⟨l, l1, l2⟩ := b3 y hy a b
          exact ⟨l, l1, (if_neg (by omega)).trans l2⟩
      · show (if j = o then i else g j) = (if l = o then i else g l) → j = l
        intro q
        by_cases x : j = o
        · by_cases y : l = o
          · omega
          · rw [if_pos x, if_neg y] at q; exact absurd q.symm (lower l (by omega))
        · by_cases y : l = o
          · rw [if_neg x, if_pos y] at q; exact absurd q (lower j (by omega))
          · rw [if_neg x, if_neg y] at q; exact k2 j l (by omega) (by omega) q
    · intro j hj
      show t14.2.2.1 6 (if j = o then i else g j) = nI (if (if j = o then i else g j) = i then hh else h (if j = o then i else g j))
      rw [row6]
      by_cases x : j = o
      · rw [if_pos x, if_pos rfl]; exact if_pos rfl
      · rw [if_neg x, hj' _ (lower j (by omega))]
        exact (if_neg (lower j (by omega))).trans (qR j (by omega))
    · intro j x hj hx a b
      show (if x = i then hh else h x) < (if (if j = o then i else g j) = i then hh else h (if j = o then i else g j))
      have b : ht_s P F (if j = o then i else g j) x := b
      by_cases q : j = o
      · rw [if_pos q] at b ⊢
        obtain ⟨l, l1, l2⟩ := free x hx a b
        rw [if_pos rfl, if_neg (fun z => lower l (by omega) (l2.trans z)), ← l2]
        exact h5 l l1
      · rw [if_neg q] at b ⊢
        obtain ⟨l, l1, l2⟩ := (hok.1 j (by omega)).2.2 x hx a b
        rw [hj' _ (lower j (by omega)), if_neg (fun z => lower l (by omega) (l2.trans z))]
        exact qa j x (by omega) hx a b
    · intro j hj p
      have p : 0 < (if (if j = o then i else g j) = i then hh else h (if j = o then i else g j)) := p
      show ∃ x, x < 64 ∧ hb th x = true ∧ ht_s P F (if j = o then i else g j) x ∧ (if (if j = o then i else g j) = i then hh else h (if j = o then i else g j)) ≤ (if x = i then hh else h x) + 1
      by_cases q : j = o
      · rw [if_pos q, if_pos rfl] at p
        rw [if_pos q, if_pos rfl]
        obtain ⟨y, hy, ty, sy, c⟩ := hW i (by omega) bw p
        have nw := sv' y hy sy
        have e1 : h y + 1 = hh := c.elim (fun z => absurd (z.symm.trans nw) (by decide)) id
        refine ⟨y, hy, ty, sy, ?_⟩
        rw [if_neg (fun z => by rw [z, bw] at nw; exact absurd nw (by decide)), e1]
        exact Nat.le_refl _
      · rw [if_neg q, hj' _ (lower j (by omega))] at p
        rw [if_neg q, hj' _ (lower j (by omega))]
        obtain ⟨x, hx, tx, sx, le⟩ := qb j (by omega) p
        obtain ⟨l, l1, l2⟩ := (hok.1 j (by omega)).2.2 x hx tx sx
        exact ⟨x, hx, tx, sx, by rw [if_neg (fun z => lower l (by omega) (l2.trans z))]; exact le⟩
    · intro j hj
      show (if j = o then i else g j) < m
      by_cases x : j = o
      · rw [if_pos x]; omega
      · rw [if_neg x]; exact hgm j (by omega)
    · intro j hj
      show hb w (if j = o then i else g j) = false
      rw [if_neg (by omega)]; exact h1 j hj
    · intro x hx a b
      obtain ⟨j, j1, j2⟩ := h2 x hx a b
      exact ⟨j, j1, (if_neg (by omega)).trans j2⟩
    · intro x hx hv
      have hv : hb v10 x = true := hv
      show (∃ j, j < o + 1 ∧ (if j = o then i else g j) = x) ∧ (if x = i then hh else h x) = hh
      rw [f10, hb_or, hb_one f9] at hv
      rcases Bool.or_eq_true _ _ |>.mp hv with q | q
      · obtain ⟨⟨j, j1, j2⟩, eh⟩ := h3 x hx q
        refine ⟨⟨j, by omega, (if_neg (by omega)).trans j2⟩, ?_⟩
        by_cases z : x = i
        · rw [if_pos z]
        · rw [if_neg z]; exact eh
      · have z : i = x := of_decide_eq_true q
        exact ⟨⟨o, by omega, (if_pos rfl).trans z⟩, if_pos z.symm⟩
    · intro j a b
      show (if j = o then i else g j) < i + 1 ∧ hb v10 (if j = o then i else g j) = true ∧ (if (if j = o then i else g j) = i then hh else h (if j = o then i else g j)) = hh
      rw [f10, hb_or, hb_one f9]
      by_cases x : j = o
      · rw [if_pos x, decide_eq_true rfl, Bool.or_true, if_pos rfl]; exact ⟨by omega, rfl, rfl⟩
      · rw [if_neg x, hj' _ (lower j (by omega))]
        obtain ⟨c1, c2, c3⟩ := h4 j a (by omega)
        rw [c2]; exact ⟨by omega, Bool.true_or _, c3⟩
    · intro j hj
      show (if (if j = o then i else g j) = i then hh else h (if j = o then i else g j)) < hh
      rw [gj j (by omega), hj' _ (lower j (by omega))]
      exact h5 j hj
    · intro x hx a
      show hb v10 x = true ∨ _
      rw [f10, hb_or, hb_one f9]
      by_cases z : x = i
      · exact Or.inl (by rw [z, decide_eq_true rfl, Bool.or_true])
      · rcases h6 x (by omega) a with q | q
        · exact Or.inl (by rw [q, Bool.true_or])
        · exact Or.inr q
    · intro x hx a p
      obtain ⟨y, hy, ty, sy, c⟩ := hW x hx a p
      refine ⟨y, hy, ty, sy, ?_⟩
      show hb w y = true ∨ (if y = i then hh else h y) + 1 = hh
      by_cases z : y = i
      · exact Or.inl (by rw [z]; exact bw)
      · rw [if_neg z]; exact c
theorem hT_give {m o hh K : Nat} {w th : Int64} {P : Nat → Int32} {F : Nat → Int64} {t : XT} {g h : Nat → Nat} {Q : Int64 → XT → Prop} (hI : hy_t t m) (hw1 : ∀ x, x < 64 → hb w x = true → hb th x = true) (hPF : t.2.2.1 5 = P ∧ t.2.2.2 0 = F) (hq : hTq t th P F o g h) (hgm : ∀ j, j < o → g j < m) (h1 : ∀ j, j < o → hb w (g j) = false) (h2 : ∀ x, x < 64 → hb th x = true → hb w x = false → ∃ j, j < o ∧ g j = x) (h5 : ∀ j, j < o → h (g j) < hh) (hW : hTw m th w P F hh h) (hK : 200 ≤ K)
    (hQ : ∀ v t' o' g h, hy_t t' m → ht_fr t t' → t'.1 7 = t.1 7 → o ≤ o' → hTq t' th P F o' g h → (∀ x, x < 64 → hb v x = true → (∃ j, j < o' ∧ g j = x) ∧ h x = hh) → (∀ j, j < o' → hb w (g j) = true → hb v (g j) = true) → (∀ x, x < 64 → hb th x = true → hb w x = false → ∃ j, j < o' ∧ g j = x) → (∀ j, j < o' → h (g j) < hh + 1) → (∀ x, x < m → hb w x = true → hb v x = true ∨ ∃ y, y < 64 ∧ hb w y = true ∧ ht_s P F x y) → (∀ j, j < o → hb w (g j) = false) → (∀ j, j < o' → g j < m) → Q v t') : wqX2_give K t (nI hh) w Q := by
  obtain ⟨K, rfl⟩ : ∃ K', K = K' + 1 := ⟨K - 1, by omega⟩
  have m60 := hI.2.1
  exact hT_give_go (o0 := o) (w := w) (th := th) (P := P) (F := F) (t0 := t) (hh := hh) hw1 hPF hQ m 0 K o g h t _ _ (by omega) (by omega) hI (ht_fr_r t) rfl (Nat.le_refl _) hq hgm h1 h2 (fun x _ z => by
    have z : hb 0 x = true := z
    rw [hb_0] at z; exact absurd z (by decide)) (fun j a b => absurd a (by omega)) h5 (fun x hx => absurd hx (by omega)) hW rfl rfl rfl
/-- what HEIGHTS are laid as -/
def hT_l (t : XT) : Prop := ∃ o g h m, t.1 4 = nI m ∧ m ≤ 60 ∧ hTq t (t.2.1 0) (t.2.2.1 5) (t.2.2.2 0) o g h ∧ (∀ j, j < o → g j < m ∧ h (g j) < 64) ∧ ((∀ x, x < 64 → hb (t.2.1 0) x = true → x < m) → (∃ ρ : Nat → Nat, ∀ k x, k < 64 → x < 64 → hb (t.2.1 0) k = true → hb (t.2.1 0) x = true → ht_s (t.2.2.1 5) (t.2.2.2 0) k x → ρ x < ρ k) → ∀ x, x < 64 → hb (t.2.1 0) x = true → ∃ j, j < o ∧ g j = x)
/-- there is one that is lowest -/
theorem hT_min {p : Nat → Prop} {ρ : Nat → Nat} : ∀ n k, ρ k ≤ n → p k → ∃ k, p k ∧ ∀ x, p x → ρ k ≤ ρ x := by
  intro n
  induction n with
  | zero => intro k l hk; exact ⟨k, hk, fun x _ => by omega⟩
  | succ n ih =>
    intro k l hk
    by_cases q : ∃ x, p x ∧ ρ x ≤ n
    · obtain ⟨x, px, lx⟩ := q
      exact ih x lx px
    · exact ⟨k, hk, fun x px => by
        have : ¬ ρ x ≤ n := fun z => q ⟨x, px, z⟩
        omega⟩
theorem hT_measure_go {m : Nat} {th : Int64} {P : Nat → Int32} {F : Nat → Int64} {t0 : XT} {Q : XT → Prop} (hPF : t0.2.2.1 5 = P ∧ t0.2.2.2 0 = F)
    (hQ : ∀ t' o g h, hy_t t' m → ht_fr t0 t' → t'.1 7 = t0.1 7 → hTq t' th P F o g h → (∀ j, j < o → g j < m ∧ h (g j) < 64) → ((∀ x, x < 64 → hb th x = true → x < m) → (∃ ρ : Nat → Nat, ∀ k x, k < 64 → x < 64 → hb th k = true → hb th x = true → ht_s P F k x → ρ x < ρ k) → ∀ x, x < 64 → hb th x = true → ∃ j, j < o ∧ g j = x) → Q t') :
    ∀ (d i K o : Nat) (g h : Nat → Nat) (w : Int64) (t : XT) (li : Nat → Int32) (lj : Nat → Int64), i + d = 64 → d + 210 ≤ K → hy_t t m → ht_fr t0 t → t.1 7 = t0.1 7 → hTq t th P F o g h → (∀ j, j < o → g j < m ∧ h (g j) < i) → (∀ x, x < 64 → hb w x = true → hb th x = true) → (∀ j, j < o → hb w (g j) = false) → (∀ x, x < 64 → hb th x = true → hb w x = false → ∃ j, j < o ∧ g j = x) → hTw m th w P F i h → ((∀ x, x < 64 → hb th x = true → x < m) → (∃ ρ : Nat → Nat, ∀ k x, k < 64 → x < 64 → hb th k = true → hb th x = true → ht_s P F k x → ρ x < ρ k) → i ≤ o) → li 3 = nI i → lj 1 = w → wpX2_measure K 1 t li lj Q := by
  intro d
  induction d with
  | zero =>
    intro i K o g h w t li lj hd hK hI hf h7 hq hg hw h1 h2 hW hA e3 e1
    obtain ⟨K, rfl⟩ : ∃ K', K = K' + 1 := ⟨K - 1, by omega⟩
    obtain rfl : i = 64 := by omega
    have m60 := hI.2.1
    have om : o ≤ m := hT_pig m o g (fun j hj => (hg j hj).1) (fun j l a b => hq.2.2.1.2 j l a b)
    show wbX2_measure_1 (wpX2_measure K) K t li lj Q
    exact ⟨fun _ => hQ t o g h hI hf h7 hq hg (fun a b => absurd (hA a b) (by omega)), fun x => absurd (show nI 64 ≤ li 3 by rw [e3]; exact nI_le (by omega) (by omega)) x⟩
  | succ d ih =>
    intro i K o g h w t li lj hd hK hI hf h7 hq hg hw h1 h2 hW hA e3 e1
    obtain ⟨K, rfl⟩ : ∃ K', K = K' + 1 := ⟨K - 1, by omega⟩
    have m60 := hI.2.1
    have g64 : ∀ j, j < o → g j < m ∧ h (g j) < 64 := fun j hj => ⟨(hg j hj).1, by have := (hg j hj).2; omega⟩
    show wbX2_measure_1 (wpX2_measure K) K t li lj Q
    unfold wbX2_measure_1
    rw [e1, e3]
    refine ⟨fun x => absurd (show nI 64 ≤ nI i from x) (nI_ge (by omega) (by omega)), fun _ v6 e6 => ⟨fun z => hQ t o g h hI hf h7 hq g64 (fun _ _ x hx tx => ?_), fun nz => ?_⟩⟩
    · have z : v6 = 0 := z
      exact h2 x hx tx (hb_z (e6.symm.trans z) x)
    refine hT_give hI hw ⟨(hf.2.2.1 5 (by decide) (by decide)).trans hPF.1, (congrFun hf.2.2.2 0).trans hPF.2⟩ hq (fun j hj => (hg j hj).1) h1 h2 (fun j hj => (hg j hj).2) hW (by omega) (fun v t' o' g' h' b1 b2 b3 b4 b5 b6 b7 b8 b9 b10 b11 b12 v9 e9 v10 e10 v11 e11 => ?_)
    have wb : ∀ x, x < 64 → hb v10 x = (hb w x && !hb v x) := fun x hx => by rw [e10, hb_and, e9, hb_not v hx]
    refine ih (i + 1) K o' g' h' v10 t' _ _ (by omega) (by omega) b1 (ht_fr_t hf b2) (b3.trans h7) b5 (fun j hj => ⟨b12 j hj, b9 j hj⟩) (fun x hx hv => ?_) (fun j hj => ?_) (fun x hx a b => ?_) (fun x hx a _ => ?_) (fun a b => ?_) (by show v11 = _; rw [e11]; exact hs_inc i) rfl
    · rw [wb x hx, Bool.and_eq_true] at hv; exact hw x hx hv.1
    · have g64 := (b5.2.2.1.1 j hj).1
      rw [wb _ g64]
      cases q : hb w (g' j) with
      | false => rfl
      | true => rw [b7 j hj q]; rfl
    · rw [wb x hx] at b
      cases q : hb w x with
      | false => exact b8 x hx a q
      | true =>
        rw [q, Bool.true_and] at b
        refine (b6 x hx ?_).1
        cases r : hb v x with
        | true => rfl
        | false => rw [r] at b; exact absurd b (by decide)
    · rw [wb x (by omega), Bool.and_eq_true] at a
      obtain ⟨a1, a2⟩ := a
      rcases b10 x hx a1 with q | ⟨y, hy, wy, sy⟩
      · rw [q] at a2; exact absurd a2 (by decide)
      · refine ⟨y, hy, hw y hy wy, sy, ?_⟩
        cases q : hb v y with
        | false => exact Or.inl (by rw [wb y hy, wy, q]; rfl)
        | true => exact Or.inr (by rw [(b6 y hy q).2])
    · obtain ⟨ρ, hρ⟩ := b
      have i0 := hA a ⟨ρ, hρ⟩
      rcases @hb_ne w with z | ⟨k, k64, kb, _⟩
      · exact absurd (e6.trans (by rw [z]; decide)) nz
      obtain ⟨l, ⟨l64, lw⟩, low⟩ := hT_min (p := fun x => x < 64 ∧ hb w x = true) (ρ := ρ) (ρ k) k (Nat.le_refl _) ⟨k64, kb⟩
      have lv : hb v l = true := by
        rcases b10 l (a l l64 (hw l l64 lw)) lw with q | ⟨y, hy, wy, sy⟩
        · exact q
        · have r1 := hρ l y l64 hy (hw l l64 lw) (hw y hy wy) sy
          have r2 := low y ⟨hy, wy⟩
          omega
      obtain ⟨⟨j, hj, ej⟩, _⟩ := b6 l l64 lv
      have : ¬ j < o := fun z => by
        have := b11 j z
        rw [ej, lw] at this; exact absurd this (by decide)
      omega
theorem hT_l_fr {t t' : XT} (h : hT_l t) (e4 : t'.1 4 = t.1 4) (e6 : t'.1 6 = t.1 6) (j0 : t'.2.1 0 = t.2.1 0) (a5 : t'.2.2.1 5 = t.2.2.1 5) (a6 : t'.2.2.1 6 = t.2.2.1 6) (a7 : t'.2.2.1 7 = t.2.2.1 7) (b0 : t'.2.2.2 0 = t.2.2.2 0) : hT_l t' := by
  obtain ⟨o, g, h, m, m1, m2, ⟨q1, q2, q3, q4, q5⟩, r⟩ := h
  refine ⟨o, g, h, m, e4.trans m1, m2, ⟨e6.trans q1, by rw [a7]; exact q2, by rw [j0, a5, b0]; exact q3, by rw [a6]; exact q4, ?_⟩, ?_⟩
  · rw [j0, a5, b0]; exact q5
  · rw [j0, a5, b0]; exact r
/-- measured or not: HEIGHTS stand as they must, if they did so where nothing has changed -/
theorem hT_measure {m K : Nat} {t : XT} {Q : XT → Prop} (hI : hy_t t m) (hF : t.1 7 = t.1 5 → hT_l t) (hK : 300 ≤ K) (hQ : ∀ t', hy_t t' m → ht_fr t t' → t'.1 7 = t'.1 5 → hT_l t' → Q t') : wqX2_measure K t Q := by
  obtain ⟨K, rfl⟩ : ∃ K', K = K' + 1 := ⟨K - 1, by omega⟩
  show wbX2_measure_0 (wpX2_measure K) K t (fun _ => 0) (fun _ => 0) Q
  refine ⟨fun ne t2 e2 t3 e3 t4 e4 => ?_, fun e => hQ t hI (ht_fr_r t) e (hF e)⟩
  have fr : ht_fr t t4 := by
    subst e4 e3 e2
    exact ⟨fun i x y => (ht_nI _ 6 0 x).trans (ht_nI t 7 _ y), rfl, fun r x _ => ht_nA (sI t 7 (t.1 5)) 6 _ x, rfl⟩
  have i7 : t4.1 7 = t.1 5 := by rw [e4, e3, e2]; rfl
  refine hT_measure_go (m := m) (t0 := t4) (th := t4.2.1 0) (P := t4.2.2.1 5) (F := t4.2.2.2 0) ⟨rfl, rfl⟩ (fun t' o g h a b c d e f => ?_) 64 0 K 0 (fun _ => 0) (fun _ => 0) (t4.2.1 0) t4 (uI (fun _ => 0) 3 0) (uI (fun _ => 0) 1 (t4.2.1 0)) (by omega) (by omega) ?_ (ht_fr_r t4) rfl ⟨?_, fun j hj => absurd hj (by omega), ⟨fun j hj => absurd hj (by omega), fun j l hj _ _ => absurd hj (by omega)⟩, fun j hj => absurd hj (by omega), fun j x hj => absurd hj (by omega), fun j hj => absurd hj (by omega)⟩ (fun j hj => absurd hj (by omega)) (fun x _ h => h) (fun j hj => absurd hj (by omega)) (fun x _ a b => by rw [a] at b; exact absurd b (by decide)) (fun x _ _ p => absurd p (by omega)) (fun _ _ => Nat.le_refl _) rfl rfl
  · refine hQ t' a (ht_fr_t fr b) ?_ ⟨o, g, h, m, a.1, a.2.1, ?_⟩
    · rw [c, i7, b.1 5 (by decide) (by decide), fr.1 5 (by decide) (by decide)]
    · rw [b.2.1, b.2.2.1 5 (by decide) (by decide), b.2.2.2]; exact ⟨d, e, f⟩
  · subst e4 e3 e2
    exact hI
  · rw [e4]; rfl
