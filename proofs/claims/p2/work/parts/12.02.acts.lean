/-! ===== reference, pure: what its state keeps (PAIRS that match and are ACYCLIC, here and in what can be UNDONE); part, undo, pair ===== -/
/-- what no ACT touches: the TAPE's length, x, letters, numbers of letters -/
def hq_key (t : XT) : Int32 × Int32 × (Nat → Int32) × (Nat → Int32) := (t.1 0, t.1 8, t.2.2.1 2, t.2.2.1 3)
def hq_good (t : XT) (m : Nat) (p : Nat → Int32) : Prop := hm_match (sA t 4 p) m ∧ hm_acyc (sA t 4 p) m
theorem hq_face_let {t t' : XT} (hl : ∀ j, hm_let t' j = hm_let t j) {f s : Nat} (h : hm_face t f s) : hm_face t' f s := by
  unfold hm_face hm_dim at h ⊢
  rw [hl f, hl s]
  exact h
theorem hq_good_ext {t t' : XT} {m : Nat} {p p' : Nat → Int32} (hl : ∀ j, hm_let t' j = hm_let t j) (e : ∀ k, k < m → p' k = p k) (h : hq_good t m p) : hq_good t' m p' := by
  refine ⟨fun k hk => ?_, hq_sub_acyc (t := sA t 4 p) (t' := sA t' 4 p') hl (fun j hj => Or.inr (e j hj)) h.2⟩
  rcases h.1 k hk with z | ⟨q, hq, z1, z2, z3⟩
  · exact Or.inl ((e k hk).trans z)
  · refine Or.inr ⟨q, hq, (e k hk).trans z1, (e q hq).trans z2, ?_⟩
    rcases z3 with ⟨a, b⟩ | ⟨a, b⟩
    · exact Or.inl ⟨a, hq_face_let (t := t) (t' := t') hl b⟩
    · exact Or.inr ⟨a, hq_face_let (t := t) (t' := t') hl b⟩
/-- who has a PARTNER is THERE, now and in what can be UNDONE -/
def hq_th (t : XT) (m n : Nat) : Prop := (∀ k, k < m → hm_par t k ≠ -1 → hm_gone t k = 0) ∧ ∀ j, j < n → ∀ k, k < m → t.2.2.1 8 (120 * j + k) ≠ -1 → t.2.2.1 8 (120 * j + 60 + k) ≠ 1
theorem hq_th_two {t : XT} {m n f s : Nat} (hT : hq_th t m n) (gf : hm_gone t f = 0) (gs : hm_gone t s = 0) : ∀ j, j < m → hq_two (t.2.2.1 4) f s j ≠ -1 → hm_gone t j = 0 := by
  intro j hj q
  by_cases x : j = s
  · rw [x]; exact gs
  · by_cases y : j = f
    · rw [y]; exact gf
    · exact hT.1 j hj (fun z => q ((if_neg x).trans ((if_neg y).trans z)))
def hq_inv (t : XT) (m n : Nat) : Prop := t.1 3 = nI m ∧ m ≤ 60 ∧ (∀ f s, f < m → s < m → hm_face t f s → f < s) ∧ hm_match t m ∧ hm_acyc t m ∧ n ≤ 16 ∧ t.1 4 = nI n ∧ (∀ j, j < n → hq_good t m (fun k => t.2.2.1 8 (120 * j + k))) ∧ hq_th t m n
theorem hq_gone_inv {t : XT} {m n : Nat} {G : Nat → Int32} (hI : hq_inv t m n) (hG : ∀ j, j < m → hm_par t j ≠ -1 → G j = 0) : hq_inv (sA t 5 G) m n := by
  obtain ⟨hm, hm60, ho, hM, hA, hn, h4, hp, hT⟩ := hI
  exact ⟨hm, hm60, ho, hM, hA, hn, h4, fun j hj => hq_good_ext (t := t) (fun _ => rfl) (fun _ _ => rfl) (hp j hj), hG, hT.2⟩
theorem hq_good_of {t : XT} {m : Nat} {p : Nat → Int32} (h : hq_good t m p) (t' : XT) (hl : ∀ j, hm_let t' j = hm_let t j) (e : ∀ k, k < m → hm_par t' k = p k) : hm_match t' m ∧ hm_acyc t' m := by
  have g := hq_good_ext (t := t) (t' := t') (p := p) (p' := t'.2.2.1 4) hl e h
  unfold hq_good at g
  rw [hm_sA0] at g
  exact g
theorem hq_free_inv {t : XT} {m n k : Nat} (hI : hq_inv t m n) (hk : k < m) : hq_inv (sA t 4 (hq_free (t.2.2.1 4) k)) m n := by
  obtain ⟨hm, hm60, ho, hM, hA, hn, h4, hp, hT⟩ := hI
  exact ⟨hm, hm60, ho, hq_free_match hm60 hk hM, hq_free_acyc hA, hn, h4, fun j hj => hq_good_ext (t := t) (fun _ => rfl) (fun _ _ => rfl) (hp j hj), fun j hj q => (hq_free_at (p := t.2.2.1 4) (k := k) j).elim (fun z => absurd z q) (fun z => hT.1 j hj (fun y => q (z.trans y))), hT.2⟩
theorem hq_push_inv {t : XT} {m n n' : Nat} {P : Nat → Int32} (hI : hq_inv t m n) (hP : hq_pushed t n P n') : hq_inv (sI (sA t 8 P) 4 (nI n')) m n' := by
  obtain ⟨hm, hm60, ho, hM, hA, hn, h4, hp, hT⟩ := hI
  obtain ⟨p1, p2, p3, p4, p5⟩ := hP
  refine ⟨hm, hm60, ho, hM, hA, p2, rfl, fun j hj => ?_, hT.1, fun j hj k hk q => ?_⟩
  · by_cases c : j + 1 < n'
    · obtain ⟨j', a, b⟩ := p5 j c
      exact hq_good_ext (t := t) (p := fun k => t.2.2.1 8 (120 * j' + k)) (fun _ => rfl) (fun k hk => b k (by omega)) (hp j' a)
    · have e : j = n' - 1 := by omega
      refine hq_good_ext (t := t) (p := t.2.2.1 4) (fun _ => rfl) (fun k hk => ?_) (by unfold hq_good; rw [hm_sA0]; exact ⟨hM, hA⟩)
      rw [e]; exact p3 k (by omega)
  · have q : P (120 * j + k) ≠ -1 := q
    show P (120 * j + 60 + k) ≠ 1
    by_cases c : j + 1 < n'
    · obtain ⟨j', a, b⟩ := p5 j c
      have e1 := b k (by omega)
      have e2 := b (60 + k) (by omega)
      rw [show 120 * j + (60 + k) = 120 * j + 60 + k by omega, show 120 * j' + (60 + k) = 120 * j' + 60 + k by omega] at e2
      rw [e2]
      exact hT.2 j' a k hk (fun y => q (e1.trans y))
    · have e : j = n' - 1 := by omega
      rw [e, p3 k (by omega)] at q
      have g : t.2.2.1 5 k = 0 := hT.1 k hk q
      rw [e, p4 k (by omega), if_pos g]
      decide
theorem hq_part {t : XT} {m n K : Nat} {a : Int32} {Q : Int32 → XT → Prop} (hI : hq_inv t m n) (hK : 5000 ≤ K) (hQ : ∀ r t' n', hq_key t' = hq_key t → hq_inv t' m n' → Q r t') : wqX12_part K t a Q := by
  have hI' := hI
  obtain ⟨hm, hm60, ho, hM, hA, hn, h4, hp, hT⟩ := hI'
  obtain ⟨K, rfl⟩ : ∃ K', K = K' + 1 := ⟨K - 1, by omega⟩
  have out : wpX12_part K 1 t (uI (fun _ => 0) 1 a) (fun _ => 0) Q := by
    obtain ⟨K, rfl⟩ : ∃ K', K = K' + 1 := ⟨K - 1, by omega⟩
    exact hQ (-1) t n rfl hI
  show wbX12_part_0 (wpX12_part K) K t (uI (fun _ => 0) 1 a) (fun _ => 0) Q
  refine hm_isSimplex (a := a) hm (by omega) ?_
  rcases hm_num hm60 a with ⟨j, hj, ea, hr⟩ | ⟨_, hr⟩
  · rw [if_pos hr]
    refine ⟨fun c => absurd c (by decide), fun _ => ?_⟩
    subst ea
    refine ⟨vp_in_nI (by omega) (by decide), fun v3 e3 => ⟨fun _ => ?_, fun _ => out⟩⟩
    refine hq_remembers h4 hn (by omega) (fun P n' hP => ?_)
    have hI1 := hq_push_inv hI hP
    refine hq_frees (t := sI (sA t 8 P) 4 (nI n')) hm60 hj hI1.2.2.2.1 (by omega) ?_
    have hI2 := hq_free_inv hI1 hj
    refine hm_criticalMany hI2.1 hm60 (by omega) ?_
    exact hQ _ _ n' rfl hI2
  · rw [if_neg hr]
    exact ⟨fun _ => out, fun c => absurd rfl c⟩
theorem hq_com5 (t : XT) (p F q : Nat → Int32) : sA (sA (sA t 4 p) 5 F) 4 q = sA (sA t 4 q) 5 F := by
  unfold sA uI
  refine Prod.ext rfl (Prod.ext rfl (Prod.ext ?_ rfl))
  funext j
  show cond (Nat.beq j 4) q (cond (Nat.beq j 5) F (cond (Nat.beq j 4) p (t.2.2.1 j))) = cond (Nat.beq j 5) F (cond (Nat.beq j 4) q (t.2.2.1 j))
  cases h4 : Nat.beq j 4 with
  | false => cases Nat.beq j 5 <;> rfl
  | true => rw [Nat.eq_of_beq_eq_true h4]; rfl
def hq_lay (c a : Nat) (P p : Nat → Int32) : Nat → Int32 := fun j => if j < c then P (a + j) else p j
theorem hq_lay_step (c a : Nat) (P p : Nat → Int32) : upd (hq_lay c a P p) c (P (a + c)) = hq_lay (c + 1) a P p := by
  funext j
  show (if j = c then P (a + c) else if j < c then P (a + j) else p j) = if j < c + 1 then P (a + j) else p j
  by_cases x : j = c
  · rw [if_pos x, if_pos (show j < c + 1 by omega), x]
  · rw [if_neg x]
    by_cases y : j < c
    · rw [if_pos y, if_pos (show j < c + 1 by omega)]
    · rw [if_neg y, if_neg (show ¬ j < c + 1 by omega)]
theorem hq_undo_go {t : XT} {n : Nat} {lj : Nat → Int64} {Q : Int32 → XT → Prop} (hn : n ≤ 15) (h4 : t.1 4 = nI n) (hQ : ∀ G, (∀ k, k < 60 → t.2.2.1 8 (120 * n + 60 + k) ≠ 1 → G k = 0) → Q (nI n) (sA (sA t 4 (hq_lay 60 (120 * n) (t.2.2.1 8) (t.2.2.1 4))) 5 G)) :
    ∀ (d c K : Nat) (li : Nat → Int32) (G : Nat → Int32), c + d = 60 → 2 * d + 2 ≤ K → li 1 = nI (120 * n) → li 2 = nI c → (∀ k, k < c → t.2.2.1 8 (120 * n + 60 + k) ≠ 1 → G k = 0) → wpX12_undo K 1 (sA (sA t 4 (hq_lay c (120 * n) (t.2.2.1 8) (t.2.2.1 4))) 5 G) li lj Q := by
  intro d
  induction d with
  | zero =>
    intro c K li G hd hK e1 e2 hG
    obtain ⟨K, rfl⟩ : ∃ K', K = K' + 1 := ⟨K - 1, by omega⟩
    obtain rfl : c = 60 := by omega
    show wbX12_undo_1 (wpX12_undo K) K (sA (sA t 4 (hq_lay 60 (120 * n) (t.2.2.1 8) (t.2.2.1 4))) 5 G) li lj Q
    refine ⟨fun _ => ?_, fun c => absurd ?_ c⟩
    · show Q (t.1 4) _
      rw [h4]; exact hQ G hG
    · show nI 60 ≤ li 2
      rw [e2]; exact nI_le (by omega) (by omega)
  | succ d ih =>
    intro c K li G hd hK e1 e2 hG
    obtain ⟨K, rfl⟩ : ∃ K', K = K' + 2 := ⟨K - 2, by omega⟩
    show wbX12_undo_1 (wpX12_undo (K + 1)) (K + 1) (sA (sA t 4 (hq_lay c (120 * n) (t.2.2.1 8) (t.2.2.1 4))) 5 G) li lj Q
    unfold wbX12_undo_1
    rw [e1, e2]
    refine ⟨fun x => absurd (show nI 60 ≤ nI c from x) (nI_ge (by omega) (by omega)), fun _ v6 e6 => ?_⟩
    have e6 : v6 = nI (120 * n + c) := e6.trans (nI_add _ _)
    subst e6
    refine ⟨vp_in_nI (by omega) (by decide), fun v7 e7 => ⟨vp_in_nI (by omega) (by decide), fun t8 e8 v9 e9 v10 e10 => ?_⟩⟩
    have e10 : v10 = nI (120 * n + 60 + c) := by
      rw [e10, e9]
      exact (congrArg (· + nI c) (nI_add (120 * n) 60)).trans (nI_add _ _)
    clear e9
    subst e10
    have cc : (nI c).toNatClampNeg = c := nI_clamp (by omega)
    have c6 : (nI (120 * n + c)).toNatClampNeg = 120 * n + c := nI_clamp (by omega)
    have e8' : t8 = sA (sA t 4 (hq_lay (c + 1) (120 * n) (t.2.2.1 8) (t.2.2.1 4))) 5 G := by
      rw [e8, e7]
      show sA (sA (sA t 4 (hq_lay c (120 * n) (t.2.2.1 8) (t.2.2.1 4))) 5 G) 4 (upd (hq_lay c (120 * n) (t.2.2.1 8) (t.2.2.1 4)) (nI c).toNatClampNeg (t.2.2.1 8 (nI (120 * n + c)).toNatClampNeg)) = _
      rw [hq_com5, cc, c6, hq_lay_step]
    clear e8
    subst e8'
    have nx : ∀ b : Int32, (b = 0 ∨ t.2.2.1 8 (120 * n + 60 + c) = 1) → wpX12_undo (K + 1) 2 (sA (sA t 4 (hq_lay (c + 1) (120 * n) (t.2.2.1 8) (t.2.2.1 4))) 5 G) (uI (uI li 102 b) 101 (nI c)) lj Q := by
      intro b hb
      show wbX12_undo_2 (wpX12_undo K) K (sA (sA t 4 (hq_lay (c + 1) (120 * n) (t.2.2.1 8) (t.2.2.1 4))) 5 G) (uI (uI li 102 b) 101 (nI c)) lj Q
      refine ⟨vp_in_nI (n := c) (by omega) (by decide), fun t13 e13 v14 e14 => ?_⟩
      have e14 : v14 = nI (c + 1) := by
        rw [e14]
        exact (congrArg (· + Int32.ofInt 1) e2).trans (hs_inc c)
      rw [hm_sAA] at e13
      have e13 : t13 = sA (sA t 4 (hq_lay (c + 1) (120 * n) (t.2.2.1 8) (t.2.2.1 4))) 5 (upd G (nI c).toNatClampNeg (vp_nar .boolean b)) := e13
      rw [cc] at e13
      rw [e13]
      refine ih (c + 1) K _ _ (by omega) (by omega) e1 e14 (fun k hk q => ?_)
      by_cases x : k = c
      · rcases hb with z | z
        · exact (if_pos x).trans (by rw [z]; rfl)
        · exact absurd (x ▸ z) q
      · exact (if_neg x).trans (hG k (by omega) q)
    have c17 : (nI (120 * n + 60 + c)).toNatClampNeg = 120 * n + 60 + c := nI_clamp (by omega)
    refine ⟨vp_in_nI (by omega) (by decide), fun v11 e11 => ⟨fun _ => nx 0 (Or.inl rfl), fun y => nx 1 (Or.inr ?_)⟩⟩
    rw [c17] at e11
    exact e11.symm.trans y
theorem hq_lay0 (a : Nat) (P p : Nat → Int32) : hq_lay 0 a P p = p := by
  funext j
  exact if_neg (by omega)
theorem hq_undo {t : XT} {m n K : Nat} {Q : Int32 → XT → Prop} (hI : hq_inv t m n) (hK : 200 ≤ K) (hQ : ∀ r t' n', hq_key t' = hq_key t → hq_inv t' m n' → Q r t') : wqX12_undo K t Q := by
  have hI' := hI
  obtain ⟨hm, hm60, ho, hM, hA, hn, h4, hp, hT⟩ := hI'
  obtain ⟨K, rfl⟩ : ∃ K', K = K' + 1 := ⟨K - 1, by omega⟩
  show wbX12_undo_0 (wpX12_undo K) K t (fun _ => 0) (fun _ => 0) Q
  refine ⟨fun c v2 e2 t3 e3 v4 e4 => ?_, fun _ => hQ (-1) t n rfl hI⟩
  have n0 : n ≠ 0 := by
    intro z
    refine c ?_
    rw [h4, z]; rfl
  obtain ⟨n1, rfl⟩ : ∃ n1, n = n1 + 1 := ⟨n - 1, by omega⟩
  have e2 : v2 = nI n1 := by rw [e2, h4]; exact nI_pred n1
  subst e2
  subst e3
  have e4 : v4 = nI (120 * n1) := e4.trans (hq_120 n1 (by omega))
  have g := hq_undo_go (t := sI t 4 (nI n1)) (n := n1) (lj := fun _ => 0) (Q := Q) (by omega) rfl (fun G hG => ?_) 60 0 K (uI (uI (fun _ => 0) 1 v4) 2 0) (t.2.2.1 5) (by omega) (by omega) e4 rfl (fun k hk => absurd hk (by omega))
  · rw [hq_lay0] at g
    have s1 : sA (sI t 4 (nI n1)) 4 ((sI t 4 (nI n1)).2.2.1 4) = sI t 4 (nI n1) := hm_sA0 _ 4
    have s2 : sA (sI t 4 (nI n1)) 5 (t.2.2.1 5) = sI t 4 (nI n1) := hm_sA0 (sI t 4 (nI n1)) 5
    rw [s1, s2] at g
    exact g
  · have gd := hq_good_of (hp n1 (by omega)) (sA (sA (sI t 4 (nI n1)) 4 (hq_lay 60 (120 * n1) ((sI t 4 (nI n1)).2.2.1 8) ((sI t 4 (nI n1)).2.2.1 4))) 5 G) (fun _ => rfl) (fun k hk => if_pos (show k < 60 by omega))
    refine hQ _ _ n1 rfl ⟨hm, hm60, ho, gd.1, gd.2, by omega, rfl, fun j hj => hq_good_ext (t := t) (fun _ => rfl) (fun _ _ => rfl) (hp j (by omega)), fun k hk q => ?_, fun j hj => hT.2 j (by omega)⟩
    refine hG k (by omega) (hT.2 n1 (by omega) k hk (fun y => q ?_))
    exact (if_pos (show k < 60 by omega)).trans y
theorem hq_free_self {p : Nat → Int32} {k : Nat} : hq_free p k k = -1 := by
  unfold hq_free
  by_cases c : p k = -1
  · rw [if_pos c]; exact c
  · rw [if_neg c]; exact if_pos rfl
theorem hq_free_other {p : Nat → Int32} {k s : Nat} (hs : s < 60) (e : p k = nI s) : hq_free p k s = -1 := by
  have z : hq_free p k = upd (upd p s (-1)) k (-1) := by
    refine (if_neg (fun y => hs_nI_neg (n := s) (by omega) (e.symm.trans y))).trans ?_
    rw [e, nI_clamp (show s < 2 ^ 31 by omega)]
  rw [z]
  show (if s = k then (-1 : Int32) else if s = s then -1 else p s) = -1
  by_cases c : s = k
  · exact if_pos c
  · exact (if_neg c).trans (if_pos rfl)
theorem hq_pair {t : XT} {m n K : Nat} {a b : Int32} {Q : Int32 → XT → Prop} (hI : hq_inv t m n) (hK : 40000 ≤ K) (hQ : ∀ r t' n', hq_key t' = hq_key t → hq_inv t' m n' → Q r t') : wqX12_pair K t a b Q := by
  have hI' := hI
  obtain ⟨hm, hm60, ho, hM, hA, hn, h4, hp, hT⟩ := hI'
  obtain ⟨K, rfl⟩ : ∃ K', K = K' + 1 := ⟨K - 1, by omega⟩
  have out : wpX12_pair K 1 t (uI (uI (fun _ => 0) 1 a) 2 b) (fun _ => 0) Q := by
    obtain ⟨K, rfl⟩ : ∃ K', K = K' + 1 := ⟨K - 1, by omega⟩
    exact hQ (-1) t n rfl hI
  show wbX12_pair_0 (wpX12_pair K) K t (uI (uI (fun _ => 0) 1 a) 2 b) (fun _ => 0) Q
  refine hm_isThere hm hm60 (by omega) (fun f hf ea gf => ?_) (fun _ => ⟨fun _ => out, fun c => absurd rfl c⟩)
  refine ⟨fun c => absurd c (by decide), fun _ => ?_⟩
  refine hm_isThere hm hm60 (by omega) (fun s hs eb gs => ?_) (fun _ => ⟨fun _ => out, fun c => absurd rfl c⟩)
  refine ⟨fun c => absurd c (by decide), fun _ => ?_⟩
  have ea : a = nI f := ea
  have eb : b = nI s := eb
  subst ea
  subst eb
  refine hm_isFace (by omega) (by omega) (by omega) (fun hF => ?_) (fun _ => ⟨fun _ => out, fun c => absurd rfl c⟩)
  refine ⟨fun c => absurd c (by decide), fun _ => ?_⟩
  refine hq_isFree (by omega) (by omega) (by omega) (fun ef es => ?_) (fun _ => ⟨fun c => absurd rfl c, fun _ => out⟩)
  refine ⟨fun _ => ?_, fun c => absurd c (by decide)⟩
  have hfs := ho f s hf hs hF
  refine hq_couples hm hm60 hf hs hfs hF hM ef es (by omega) (fun hM1 hA1 F => ?_) (fun F => ?_)
  · refine ⟨fun _ => ?_, fun c => absurd c (by decide)⟩
    have hI1 : hq_inv (sA (sA t 4 (hq_two (t.2.2.1 4) f s)) 7 F) m n := ⟨hm, hm60, ho, hM1, hA1, hn, h4, fun j hj => hq_good_ext (t := t) (fun _ => rfl) (fun _ _ => rfl) (hp j hj), hq_th_two hT gf gs, hT.2⟩
    refine hq_frees (t := sA (sA t 4 (hq_two (t.2.2.1 4) f s)) 7 F) hm60 hf hM1 (by omega) ?_
    have hI2 := hq_free_inv hI1 hf
    refine hq_remembers hI2.2.2.2.2.2.2.1 hn (by omega) (fun P n' hP => ?_)
    have hI3 := hq_push_inv hI2 hP
    refine ⟨vp_in_nI (by omega) (by decide), fun t13 e13 => ⟨vp_in_nI (by omega) (by decide), fun t14 e14 => ?_⟩⟩
    have cf : (nI f).toNatClampNeg = f := nI_clamp (by omega)
    have cs : (nI s).toNatClampNeg = s := nI_clamp (by omega)
    let p1 : Nat → Int32 := hq_free (hq_two (t.2.2.1 4) f s) f
    let t3 : XT := sI (sA (sA (sA (sA t 4 (hq_two (t.2.2.1 4) f s)) 7 F) 4 p1) 8 P) 4 (nI n')
    have hI3 : hq_inv t3 m n' := hI3
    have e14' : t14 = sA t3 4 (hq_two p1 f s) := by
      rw [e14, e13]
      show sA (sA t3 4 (upd p1 (nI f).toNatClampNeg (nI s))) 4 (upd (upd p1 (nI f).toNatClampNeg (nI s)) (nI s).toNatClampNeg (nI f)) = _
      rw [hm_sAA, cf, cs]; rfl
    have pf : hm_par t3 f = -1 := hq_free_self (p := hq_two (t.2.2.1 4) f s)
    have ps : hm_par t3 s = -1 := hq_free_other (p := hq_two (t.2.2.1 4) f s) (by omega) ((if_neg (by omega)).trans (if_pos rfl))
    have hM4 : hm_match (sA t3 4 (hq_two p1 f s)) m := hq_match_two (t := t3) hm60 hf hs hfs hF hI3.2.2.2.1 pf ps
    have hA4 : hm_acyc (sA t3 4 (hq_two p1 f s)) m := by
      refine hq_sub_acyc (t := sA t 4 (hq_two (t.2.2.1 4) f s)) (fun _ => rfl) (fun j hj => ?_) hA1
      show (if j = s then nI f else if j = f then nI s else p1 j) = -1 ∨ (if j = s then nI f else if j = f then nI s else p1 j) = (if j = s then nI f else if j = f then nI s else t.2.2.1 4 j)
      by_cases x : j = s
      · rw [if_pos x, if_pos x]; exact Or.inr rfl
      · by_cases y : j = f
        · rw [if_neg x, if_pos y, if_neg x, if_pos y]; exact Or.inr rfl
        · rw [if_neg x, if_neg y, if_neg x, if_neg y]
          rcases hq_free_at (p := hq_two (t.2.2.1 4) f s) (k := f) j with z | z
          · exact Or.inl z
          · exact Or.inr (z.trans ((if_neg x).trans (if_neg y)))
    have hI4 : hq_inv (sA t3 4 (hq_two p1 f s)) m n' := ⟨hm, hm60, ho, hM4, hA4, hI3.2.2.2.2.2.1, rfl, fun j hj => hq_good_ext (t := t3) (fun _ => rfl) (fun _ _ => rfl) (hI3.2.2.2.2.2.2.2.1 j hj), hq_th_two (t := t3) hI3.2.2.2.2.2.2.2.2 gf gs, hI3.2.2.2.2.2.2.2.2.2⟩
    rw [e14']
    refine hm_criticalMany (t := sA t3 4 (hq_two p1 f s)) hm hm60 (by omega) ?_
    exact hQ _ _ n' rfl hI4
  · refine ⟨fun c => absurd rfl c, fun _ => ?_⟩
    exact hQ (-2) (sA t 7 F) n rfl ⟨hm, hm60, ho, hM, hA, hn, h4, fun j hj => hq_good_ext (t := t) (fun _ => rfl) (fun _ _ => rfl) (hp j hj), hT⟩
