/-! ===== reference, pure: what leaves the state as it is; puts, feed, end, draws, number, sign ===== -/
theorem hq_frame {t t' : XT} {m n : Nat} (h3 : t'.1 3 = t.1 3) (h4 : t'.1 4 = t.1 4) (h2 : t'.2.2.1 2 = t.2.2.1 2) (hp4 : t'.2.2.1 4 = t.2.2.1 4) (h8 : t'.2.2.1 8 = t.2.2.1 8) (h5 : t'.2.2.1 5 = t.2.2.1 5) (hI : hq_inv t m n) : hq_inv t' m n := by
  obtain ⟨hm, hm60, ho, hM, hA, hn, e4, hp, hT⟩ := hI
  have hl : ∀ j, hm_let t' j = hm_let t j := fun j => congrFun h2 j
  have g := hq_good_of (t := t) (p := t.2.2.1 4) (m := m) (by unfold hq_good; rw [hm_sA0]; exact ⟨hM, hA⟩) t' hl (fun k _ => congrFun hp4 k)
  exact ⟨h3.trans hm, hm60, fun f s hf hs fc => ho f s hf hs (hq_face_let (t := t') (t' := t) (fun j => (hl j).symm) fc), g.1, g.2, hn, h4.trans e4, fun j hj => hq_good_ext (t := t) hl (fun k _ => congrFun h8 _) (hp j hj), fun k hk q => (congrFun h5 k).trans (hT.1 k hk (fun y => q ((congrFun hp4 k).trans y))), fun j hj k hk q y => hT.2 j hj k hk (fun w => q ((congrFun h8 _).trans w)) ((congrFun h8 _).symm.trans y)⟩
theorem hq_fold0 (t : XT) (A B : Nat → Int32) (v w : Int32) : sI (sA (sI (sA t 0 A) 0 v) 0 B) 0 w = sI (sA t 0 B) 0 w := by
  unfold sI sA uI
  refine Prod.ext ?_ (Prod.ext rfl (Prod.ext ?_ rfl))
  · funext j
    show cond (Nat.beq j 0) w (cond (Nat.beq j 0) v (t.1 j)) = cond (Nat.beq j 0) w (t.1 j)
    cases Nat.beq j 0 <;> rfl
  · funext j
    show cond (Nat.beq j 0) B (cond (Nat.beq j 0) A (t.2.2.1 j)) = cond (Nat.beq j 0) B (t.2.2.1 j)
    cases Nat.beq j 0 <;> rfl
theorem hq_put1 {t : XT} {y K : Nat} {v : Int32} {li : Nat → Int32} {lj : Nat → Int64} {G : Nat → Int32} {Q : XT → Prop} (hy : y < 160) (hv : ¬ v < 0) (e2 : li 2 = v)
    (cont : ∀ (G' : Nat → Int32) (li' : Nat → Int32), li' 2 = v + Int32.ofInt (-8) → wpX12_puts K 1 (sI (sA t 0 G') 0 (nI (y + 1))) li' lj Q) : wpX12_puts (K + 1) 1 (sI (sA t 0 G) 0 (nI y)) li lj Q := by
  show wbX12_puts_1 (wpX12_puts K) K (sI (sA t 0 G) 0 (nI y)) li lj Q
  unfold wbX12_puts_1
  rw [e2]
  refine ⟨fun x => absurd x hv, fun _ v2 _ v3 _ => ⟨vp_in_nI (n := y) hy (by decide), fun t4 e4 v5 e5 t6 e6 v7 e7 => ?_⟩⟩
  subst e4
  have e5 : v5 = nI (y + 1) := e5.trans (nI_1 y)
  subst e5
  have e6' : t6 = sI (sA t 0 (upd G (nI y).toNatClampNeg (vp_nar .byte v3))) 0 (nI (y + 1)) := by
    rw [e6]
    exact hq_fold0 t G _ (nI y) (nI (y + 1))
  rw [e6']
  exact cont _ _ e7
theorem hq_puts {t : XT} {z K : Nat} {a : Int32} {Q : XT → Prop} (hz : t.1 0 = nI z) (hz4 : z + 4 ≤ 160) (hK : 8 ≤ K) (hQ : ∀ G, Q (sI (sA t 0 G) 0 (nI (z + 4)))) : wqX12_puts K t a Q := by
  obtain ⟨K, rfl⟩ : ∃ K', K = K' + 6 := ⟨K - 6, by omega⟩
  have st : sI (sA t 0 (t.2.2.1 0)) 0 (nI z) = t := by
    rw [hm_sA0, ← hz]
    unfold sI uI
    refine Prod.ext ?_ rfl
    funext j
    show cond (Nat.beq j 0) (t.1 0) (t.1 j) = t.1 j
    cases h : Nat.beq j 0 with
    | true => rw [Nat.eq_of_beq_eq_true h]; rfl
    | false => rfl
  show wpX12_puts (K + 5) 1 t (uI (uI (fun _ => 0) 1 a) 2 24) (fun _ => 0) Q
  rw [← st]
  refine hq_put1 (v := 24) (by omega) (by decide) rfl (fun G1 l1 a1 => ?_)
  refine hq_put1 (v := 24 + Int32.ofInt (-8)) (by omega) (by decide) a1 (fun G2 l2 a2 => ?_)
  refine hq_put1 (v := 24 + Int32.ofInt (-8) + Int32.ofInt (-8)) (by omega) (by decide) a2 (fun G3 l3 a3 => ?_)
  refine hq_put1 (v := 24 + Int32.ofInt (-8) + Int32.ofInt (-8) + Int32.ofInt (-8)) (by omega) (by decide) a3 (fun G4 l4 a4 => ?_)
  show wbX12_puts_1 (wpX12_puts K) K (sI (sA t 0 G4) 0 (nI (z + 4))) l4 (fun _ => 0) Q
  refine ⟨fun _ => hQ G4, fun x => absurd (by rw [a4]; decide) x⟩
theorem hq_feed {t : XT} {z K : Nat} {a b c d e : Int32} {Q : Int32 → XT → Prop} (hz : t.1 0 = nI z) (hz160 : z ≤ 160) (hK : 20 ≤ K) (h1 : z + 20 ≤ 160 → ∀ G, Q (nI (z + 20)) (sI (sA t 0 G) 0 (nI (z + 20)))) (h0 : ¬ z + 20 ≤ 160 → Q (-1) t) : wqX12_feed K t a b c d e Q := by
  obtain ⟨K, rfl⟩ : ∃ K', K = K' + 1 := ⟨K - 1, by omega⟩
  show wbX12_feed_0 (wpX12_feed K) K t (uI (uI (uI (uI (uI (fun _ => 0) 1 a) 2 b) 3 c) 4 d) 5 e) (fun _ => 0) Q
  intro v1 e1
  have e1 : v1 = nI (z + 20) := by
    rw [e1, hz]
    exact nI_add z 20
  subst e1
  refine ⟨fun x => ?_, fun x => h0 (fun y => x (nI_le (b := 160) y (by omega)))⟩
  have h20 : z + 20 ≤ 160 := (nI_leI (b := 160) (by omega) (by omega)).mp x
  refine hq_puts hz (by omega) (by omega) (fun G1 => ?_)
  refine hq_puts (t := sI (sA t 0 G1) 0 (nI (z + 4))) (z := z + 4) rfl (by omega) (by omega) (fun G2 => ?_)
  rw [hq_fold0]
  refine hq_puts (t := sI (sA t 0 G2) 0 (nI (z + 4 + 4))) (z := z + 4 + 4) rfl (by omega) (by omega) (fun G3 => ?_)
  rw [hq_fold0]
  refine hq_puts (t := sI (sA t 0 G3) 0 (nI (z + 4 + 4 + 4))) (z := z + 4 + 4 + 4) rfl (by omega) (by omega) (fun G4 => ?_)
  rw [hq_fold0]
  refine hq_puts (t := sI (sA t 0 G4) 0 (nI (z + 4 + 4 + 4 + 4))) (z := z + 4 + 4 + 4 + 4) rfl (by omega) (by omega) (fun G5 => ?_)
  rw [hq_fold0]
  exact h1 h20 G5
theorem hq_end {t : XT} {z K : Nat} {a : Int32} {Q : Int32 → XT → Prop} (hz : t.1 0 = nI z) (hz160 : z ≤ 160) (hK : 2 ≤ K) (h1 : ∀ y, y ≤ z → a = nI y → Q (nI y) (sI t 0 (nI y))) (h0 : (∀ y, y ≤ z → a ≠ nI y) → Q (-1) t) : wqX12_end K t a Q := by
  obtain ⟨K, rfl⟩ : ∃ K', K = K' + 2 := ⟨K - 2, by omega⟩
  show wbX12_end_0 (wpX12_end (K + 1)) (K + 1) t (uI (fun _ => 0) 1 a) (fun _ => 0) Q
  refine ⟨fun x => h0 (fun y hy e => ?_), fun x => ⟨fun y t3 e3 => ?_, fun y => h0 (fun w hw e => ?_)⟩⟩
  · have x : a < 0 := x
    rw [e] at x
    exact nI_pos (by omega) x
  · have y : a ≤ t.1 0 := y
    obtain ⟨j, hj, ej⟩ := nI_of (x := a) x
    rw [hz, ej] at y
    have jz := (nI_leI (by omega) (by omega)).mp y
    subst ej
    rw [e3]
    exact h1 j jz rfl
  · refine y ?_
    show a ≤ t.1 0
    rw [hz, e]
    exact nI_le hw (by omega)
theorem hq_draws {t : XT} {K : Nat} {a : Int32} {Q : Int32 → XT → Prop} (hK : 1 ≤ K) (h1 : Q (t.1 8) (sI t 8 a)) (h0 : Q (-1) t) : wqX12_draws K t a Q := by
  obtain ⟨K, rfl⟩ : ∃ K', K = K' + 1 := ⟨K - 1, by omega⟩
  show wbX12_draws_0 (wpX12_draws K) K t (uI (fun _ => 0) 1 a) (fun _ => 0) Q
  refine ⟨fun _ t2 e2 => ?_, fun _ => h0⟩
  rw [e2]; exact h1
theorem hq_number {t : XT} {K : Nat} {a : Int32} {Q : Int32 → XT → Prop} (hK : 4 ≤ K) (hQ : ∀ r, Q r t) : wqX12_number K t a Q := by
  obtain ⟨K, rfl⟩ : ∃ K', K = K' + 2 := ⟨K - 2, by omega⟩
  show wbX12_number_0 (wpX12_number (K + 1)) (K + 1) t (uI (fun _ => 0) 1 a) (fun _ => 0) Q
  refine hm_in (v := a) (lo := 1) (hi := 255) (by omega) ?_
  by_cases c : (1 : Int32) ≤ a ∧ a ≤ 255
  · rw [if_pos c]
    refine ⟨fun _ => hQ (-1), fun _ => ⟨fun _ => hQ (-1), fun _ => ?_⟩⟩
    have p : ¬ a < 0 := by
      intro q
      have c1 := Int32.le_iff_toInt_le.mp c.1
      have q1 := Int32.lt_iff_toInt_lt.mp q
      have e1 : (1 : Int32).toInt = 1 := by decide
      have e0 : (0 : Int32).toInt = 0 := by decide
      omega
    obtain ⟨j, hj, ej⟩ := nI_of2 (x := a) (M := 255) (n := 255) (by decide) p c.2
    subst ej
    exact ⟨vp_in_nI (n := j) (by omega) (by decide), fun v4 _ => hQ v4⟩
  · rw [if_neg c]
    exact ⟨fun _ => hQ (-1), fun x => absurd rfl x⟩
theorem hq_sign {t : XT} {m K : Nat} {a b : Int32} {Q : Int32 → XT → Prop} (hm : t.1 3 = nI m) (hm60 : m ≤ 60) (hK : 10 ≤ K) (hQ : ∀ r, Q r t) : wqX12_sign K t a b Q := by
  obtain ⟨K, rfl⟩ : ∃ K', K = K' + 1 := ⟨K - 1, by omega⟩
  have out : wpX12_sign K 1 t (uI (uI (fun _ => 0) 1 a) 2 b) (fun _ => 0) Q := by
    obtain ⟨K, rfl⟩ : ∃ K', K = K' + 1 := ⟨K - 1, by omega⟩
    exact hQ _
  show wbX12_sign_0 (wpX12_sign K) K t (uI (uI (fun _ => 0) 1 a) 2 b) (fun _ => 0) Q
  refine hm_isSimplex (a := a) hm (by omega) ?_
  rcases hm_num hm60 a with ⟨f, hf, ea, hr⟩ | ⟨_, hr⟩
  · rw [if_pos hr]
    refine ⟨fun c => absurd c (by decide), fun _ => ?_⟩
    refine hm_isSimplex (a := b) hm (by omega) ?_
    rcases hm_num hm60 b with ⟨s, hs, eb, hr2⟩ | ⟨_, hr2⟩
    · rw [if_pos hr2]
      refine ⟨fun _ => ?_, fun c => absurd c (by decide)⟩
      subst ea
      subst eb
      refine hm_isFace (by omega) (by omega) (by omega) (fun _ => ?_) (fun _ => ⟨fun _ => hQ 0, fun c => absurd rfl c⟩)
      exact ⟨fun c => absurd c (by decide), fun _ => hm_signOf (by omega) (by omega) (by omega) (hQ _)⟩
    · rw [if_neg hr2]
      exact ⟨fun c => absurd rfl c, fun _ => out⟩
  · rw [if_neg hr]
    exact ⟨fun _ => out, fun c => absurd rfl c⟩
