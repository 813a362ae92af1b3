/-! ===== drawn: the DRAWS, and peeling by DRAWS as a function; the class's, exactly ===== -/
def hdn (x : Int32) : Int32 := (x.toInt64 * 1103515245 + 12345 - (x.toInt64 * 1103515245 + 12345) / 2147483648 * 2147483648).toInt32
def hdr (x n : Int32) : Int32 := hdn x / 65536 - hdn x / 65536 / n * n
theorem hdr_ok {t : XT} {c : Nat} (hx : 0 ≤ t.1 8) (hc : 0 < c) (hc60 : c ≤ 60) : (∃ j, j < c ∧ hdr (t.1 8) (nI c) = nI j) ∧ 0 ≤ hdn (t.1 8) := by
  have h : wqX12_drawnOf 1 t (nI c) (fun r t' => (∃ j, j < c ∧ r = nI j) ∧ 0 ≤ t'.1 8) := hq_drawnOf hx hc hc60 (Nat.le_refl 1) (fun v j hv hj => ⟨⟨j, hj, rfl⟩, hv⟩)
  have h : wbX12_drawnOf_0 (wpX12_drawnOf 0) 0 t (uI (fun _ => 0) 1 (nI c)) (fun _ => 0) (fun r t' => (∃ j, j < c ∧ r = nI j) ∧ 0 ≤ t'.1 8) := h
  exact ((((h _ rfl _ rfl _ rfl).2 _ rfl _ rfl _ rfl).2 _ rfl).2 _ rfl)
theorem hdr_x {x : Int32} {c : Nat} (hx : 0 ≤ x) (hc : 0 < c) (hc60 : c ≤ 60) : (∃ j, j < c ∧ hdr x (nI c) = nI j) ∧ 0 ≤ hdn x := hdr_ok (t := sI tm0 8 x) hx hc hc60
theorem hmx_drawnOf {t : XT} {c K : Nat} {Q : Int32 → XT → Prop} (hc : 0 < c) (hc60 : c ≤ 60) (hK : 1 ≤ K) (hQ : Q (hdr (t.1 8) (nI c)) (sI t 8 (hdn (t.1 8)))) : wqX12_drawnOf K t (nI c) Q := by
  obtain ⟨K, rfl⟩ : ∃ K', K = K' + 1 := ⟨K - 1, by omega⟩
  show wbX12_drawnOf_0 (wpX12_drawnOf K) K t (uI (fun _ => 0) 1 (nI c)) (fun _ => 0) Q
  intro v1 e1 v2 e2 v3 e3
  refine ⟨by decide, fun v4 e4 v5 e5 t6 e6 => ⟨by decide, fun v7 e7 => ⟨?_, fun v8 e8 => ?_⟩⟩⟩
  · show ¬ nI c = 0
    intro q
    have := (nI_eq (a := c) (b := 0) (by omega) (by omega)).mp q
    omega
  · subst e1; subst e2; subst e3; subst e4; subst e5; subst e6; subst e7; subst e8
    exact hQ
/-- what the DRAW x takes of those below c -/
def hdc (p : Nat → Prop) (c : Nat) (x : Int32) (j : Nat) : Prop := j < c ∧ p j ∧ hdr x (nI (hst_n p c)) = nI (hst_n p j)
theorem hdc_uni {p : Nat → Prop} {c i j : Nat} {x : Int32} (hc : c ≤ 60) (h : hdc p c x i) (g : hdc p c x j) : j = i := by
  have a := hst_le p i
  have b := hst_le p j
  have := h.1
  have := g.1
  exact hst_rank g.2.1 h.2.1 ((nI_eq (by omega) (by omega)).mp (g.2.2.symm.trans h.2.2))
theorem hdc_ex {p : Nat → Prop} {c k : Nat} {x : Int32} (hc : c ≤ 60) (hx : 0 ≤ x) (hk : k < c) (pk : p k) : ∃ j, hdc p c x j := by
  have pos : 0 < hst_n p c := Nat.pos_of_ne_zero (fun q => hst_0 q k hk pk)
  have l := hst_le p c
  obtain ⟨r, hr, e⟩ := (hdr_x hx pos (by omega)).1
  obtain ⟨j, hj, pj, ej⟩ := hst_find hr
  exact ⟨j, hj, pj, by rw [e, ej]⟩
theorem hpx_drawFrom {t : XT} {p : Nat → Prop} {c K : Nat} {v : Int64} {Q : Int32 → XT → Prop} (hv : ∀ k, hb v k = true ↔ (k < c ∧ p k)) (hc : c ≤ 60) (hx : 0 ≤ t.1 0) (hne : ∃ k, k < c ∧ p k) (hK : 300 ≤ K) (hQ : ∀ j, hdc p c (t.1 0) j → Q (nI j) (sI t 0 (hdn (t.1 0)))) : wqX11_drawFrom K t v Q := by
  obtain ⟨K, rfl⟩ : ∃ K', K = K' + 1 := ⟨K - 1, by omega⟩
  obtain ⟨k0, hk0, pk0⟩ := hne
  have pos : 0 < hst_n p c := Nat.pos_of_ne_zero (fun q => hst_0 q k0 hk0 pk0)
  have l := hst_le p c
  have tot : nb 64 (un v) = hst_n p c := by
    rw [hst_nb]
    have e := hst_gap2 (p := fun k => hb v k = true) (b := c) (j := 64) (by omega) (fun k a _ y => absurd ((hv k).mp y).1 (by omega))
    rw [e]
    exact hst_eqv c (fun k hk => (hv k).trans ⟨fun y => y.2, fun y => ⟨hk, y⟩⟩)
  show wbX11_drawFrom_0 (wpX11_drawFrom K) K t (fun _ => 0) (uI (fun _ => 0) 1 v) Q
  have lv : uI (fun _ => (0 : Int64)) 1 v 1 = v := rfl
  refine hw_bc64 (by omega) ?_
  rw [lv, tot]
  intro v2 e2 v3 e3 v4 e4
  refine ⟨by decide, fun v5 e5 v6 e6 t7 e7 => ⟨fun z => absurd z ?_, fun _ => ⟨by decide, fun v9 e9 => ⟨?_, fun v10 e10 => ?_⟩⟩⟩⟩
  · show ¬ nI (hst_n p c) ≤ nI 0
    exact nI_ge (by omega) (by omega)
  · intro q
    have := (nI_eq (a := hst_n p c) (b := 0) (by omega) (by omega)).mp q
    omega
  · subst e2; subst e3; subst e4; subst e5; subst e6; subst e7; subst e9
    have e10 : v10 = hdr (t.1 0) (nI (hst_n p c)) := e10
    obtain ⟨r, hr, er⟩ := (hdr_x hx pos (by omega)).1
    rw [e10, er]
    refine hx_nth (by omega) (by omega) (fun j j64 jb jn => ?_)
    have jp := (hv j).mp jb
    refine hQ j ⟨jp.1, jp.2, ?_⟩
    rw [er, ← jn]
    exact congrArg nI (hst_eqv j (fun k hk => (hv k).trans ⟨fun y => y.2, fun y => ⟨by omega, y⟩⟩))
def hdS (L : Nat → Int32) (c : Nat) (O : Nat → Prop) (k : Nat) : Prop := O k ∧ ∃ s, hpo L c O k s
def hdG (L : Nat → Int32) (O : Nat → Prop) (d k : Nat) : Prop := O k ∧ hm_bc (L k) = nI (d + 1)
/-- the step down; the step that leaves one over -/
def hd1 (L : Nat → Int32) (c : Nat) (O : Nat → Prop) (x : Int32) (k s : Nat) : Prop := hdc (hdS L c O) c x k ∧ hpo L c O k s
def hd2 (L : Nat → Int32) (c : Nat) (O : Nat → Prop) (x : Int32) (j : Nat) : Prop := ∃ d, d < 5 ∧ hgr L c 5 O (nI d) ∧ hdc (hdG L O d) c x j
theorem hd1_uni {L : Nat → Int32} {c k s k' s' : Nat} {O : Nat → Prop} {x : Int32} (hc : c ≤ 60) (h : hd1 L c O x k s) (h' : hd1 L c O x k' s') : k' = k ∧ s' = s := by
  have e : k' = k := hdc_uni hc h.1 h'.1
  subst e
  exact ⟨rfl, h.2.2.2.2 s' h'.2.1 h'.2.2.1 h'.2.2.2.1⟩
theorem hd2_uni {L : Nat → Int32} {c j j' : Nat} {O : Nat → Prop} {x : Int32} (hc : c ≤ 60) (h : hd2 L c O x j) (h' : hd2 L c O x j') : j' = j := by
  obtain ⟨d, d5, g, u⟩ := h
  obtain ⟨d', d5', g', u'⟩ := h'
  have e : d' = d := (nI_eq (by omega) (by omega)).mp (hgr_uni g' g)
  subst e
  exact hdc_uni hc u u'
noncomputable def hdp (L : Nat → Int32) (c : Nat) : Nat → (Nat → Prop) → Int32 → Int32 → Int32 × Int32
  | 0, _, x, a => (a, x)
  | d + 1, O, x, a => @ite _ (∃ q : Nat × Nat, hd1 L c O x q.1 q.2) (Classical.propDecidable _)
      (hdp L c d (fun k => (O k ∧ k ≠ (Classical.epsilon (fun q : Nat × Nat => hd1 L c O x q.1 q.2)).2) ∧ k ≠ (Classical.epsilon (fun q : Nat × Nat => hd1 L c O x q.1 q.2)).1) (hdn x) a)
      (@ite _ (∃ j, hd2 L c O x j) (Classical.propDecidable _) (hdp L c d (fun k => O k ∧ k ≠ Classical.epsilon (hd2 L c O x)) (hdn x) (a + 1)) (a, x))
theorem hdp_1 {L : Nat → Int32} {c d k s : Nat} {O : Nat → Prop} {x a : Int32} (hc : c ≤ 60) (h : hd1 L c O x k s) : hdp L c (d + 1) O x a = hdp L c d (fun j => (O j ∧ j ≠ s) ∧ j ≠ k) (hdn x) a := by
  have ex : ∃ q : Nat × Nat, hd1 L c O x q.1 q.2 := ⟨(k, s), h⟩
  have sp := Classical.epsilon_spec ex
  obtain ⟨e1, e2⟩ := hd1_uni hc h sp
  have u : hdp L c (d + 1) O x a = _ := @if_pos _ (Classical.propDecidable _) ex _ _ _
  rw [e1, e2] at u
  exact u
theorem hdp_2 {L : Nat → Int32} {c d j : Nat} {O : Nat → Prop} {x a : Int32} (hc : c ≤ 60) (no : ∀ k s, ¬ hd1 L c O x k s) (h : hd2 L c O x j) : hdp L c (d + 1) O x a = hdp L c d (fun k => O k ∧ k ≠ j) (hdn x) (a + 1) := by
  have nx : ¬ ∃ q : Nat × Nat, hd1 L c O x q.1 q.2 := fun ⟨q, w⟩ => no q.1 q.2 w
  have ex : ∃ j, hd2 L c O x j := ⟨j, h⟩
  have e1 := hd2_uni hc h (Classical.epsilon_spec ex)
  have u : hdp L c (d + 1) O x a = _ := (@if_neg _ (Classical.propDecidable _) nx _ _ _).trans (@if_pos _ (Classical.propDecidable _) ex _ _ _)
  rw [e1] at u
  exact u
theorem hdp_0 {L : Nat → Int32} {c d : Nat} {O : Nat → Prop} {x a : Int32} (no : ∀ k, k < c → ¬ O k) : hdp L c d O x a = (a, x) := by
  cases d with
  | zero => rfl
  | succ d =>
    have nx : ¬ ∃ q : Nat × Nat, hd1 L c O x q.1 q.2 := fun ⟨q, w⟩ => no q.1 w.1.1 w.1.2.1.1
    have ny : ¬ ∃ j, hd2 L c O x j := fun ⟨j, _, _, _, w⟩ => no j w.1 w.2.1.1
    exact (@if_neg _ (Classical.propDecidable _) nx _ _ _).trans (@if_neg _ (Classical.propDecidable _) ny _ _ _)
theorem hd_none {L : Nat → Int32} {c : Nat} {O : Nat → Prop} {x : Int32} (h : ∀ k, k < c → ¬ hdS L c O k) : ∀ k s, ¬ hd1 L c O x k s := fun k _ w => h k w.1.1 w.1.2.1
/-- the class's open ones of the greatest DIM -/
theorem hpx_greatest {t : XT} {L : Nat → Int32} {c K k0 : Nat} {O : Nat → Prop} {Q : Int64 → XT → Prop} (hE : hcE t L c) (hL : hnL L c) (hO : hpO t L c O) (hk0 : k0 < c) (ok0 : O k0) (hK : 200 ≤ K) (hQ : ∀ d v, d < 5 → hgr L c 5 O (nI d) → (∃ k, k < c ∧ hdG L O d k) → (∀ k, hb v k = true ↔ (k < c ∧ hdG L O d k)) → Q v t) : wqX7_greatest K t Q := by
  obtain ⟨K, rfl⟩ : ∃ K', K = K' + 1 := ⟨K - 1, by omega⟩
  show wbX7_greatest_0 (wpX7_greatest K) K t (fun _ => 0) (fun _ => 0) Q
  refine hpx_gd hE hO.1 (by omega) (fun r hr => ?_)
  rcases id hr with ⟨_, b⟩ | ⟨d, d5, er, ⟨k, kc, pk, dk⟩, _⟩
  · obtain ⟨e, e5, he⟩ := hnL_bc hL hk0
    exact absurd he (b k0 hk0 ok0 e e5)
  · subst er
    refine hpx_isDim (a := nI d) (by omega) (fun _ _ _ => ⟨fun z => absurd z (by decide), fun _ => ⟨vp_in_nI (n := d) (by omega) (by decide), fun v4 e4 v5 e5 => ?_⟩⟩) (fun no => absurd rfl (no d d5))
    have e4 : v4 = t.2.2.2 2 d := e4.trans (congrArg (t.2.2.2 2) (nI_clamp (by omega)))
    refine hQ d v5 d5 hr ⟨k, kc, pk, dk⟩ (fun k => ?_)
    rw [e5, e4, hb_and, Bool.and_eq_true, hO.1 k, hE.2.2.2.2.2.2 d k d5]
    exact ⟨fun w => ⟨w.1.1, w.1.2, w.2.2⟩, fun w => ⟨⟨w.1, w.2.1⟩, w.1, w.2.2⟩⟩
