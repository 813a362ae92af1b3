/-! ===== auto 2: peeling as a function; the class's peeling, exactly ===== -/
/-- the first open one that is a FACE of just one open one -/
def hpf1 (L : Nat → Int32) (c : Nat) (O : Nat → Prop) (k s : Nat) : Prop := k < c ∧ O k ∧ hpo L c O k s ∧ ∀ j, j < k → ∀ r, ¬ (O j ∧ hpo L c O j r)
/-- the greatest open one -/
def hpf2 (c : Nat) (O : Nat → Prop) (j : Nat) : Prop := j < c ∧ O j ∧ ∀ k, k < c → O k → k ≤ j
theorem hpf1_uni {L : Nat → Int32} {c k s k' s' : Nat} {O : Nat → Prop} (h : hpf1 L c O k s) (h' : hpf1 L c O k' s') : k' = k ∧ s' = s := by
  have e : k' = k := by
    rcases Nat.lt_trichotomy k' k with q | q | q
    · exact absurd ⟨h'.2.1, h'.2.2.1⟩ (h.2.2.2 k' q s')
    · exact q
    · exact absurd ⟨h.2.1, h.2.2.1⟩ (h'.2.2.2 k q s)
  subst e
  exact ⟨rfl, h.2.2.1.2.2.2 s' h'.2.2.1.1 h'.2.2.1.2.1 h'.2.2.1.2.2.1⟩
theorem hpf2_uni {c j j' : Nat} {O : Nat → Prop} (h : hpf2 c O j) (h' : hpf2 c O j') : j' = j := Nat.le_antisymm (h.2.2 j' h'.1 h'.2.1) (h'.2.2 j h.1 h.2.1)
noncomputable def hpe (L : Nat → Int32) (c : Nat) : Nat → (Nat → Prop) → (Nat → Int32) → (Nat → Int32)
  | 0, _, P => P
  | d + 1, O, P => @ite _ (∃ q : Nat × Nat, hpf1 L c O q.1 q.2) (Classical.propDecidable _)
      (hpe L c d (fun k => (O k ∧ k ≠ (Classical.epsilon (fun q : Nat × Nat => hpf1 L c O q.1 q.2)).2) ∧ k ≠ (Classical.epsilon (fun q : Nat × Nat => hpf1 L c O q.1 q.2)).1) (hq_two P (Classical.epsilon (fun q : Nat × Nat => hpf1 L c O q.1 q.2)).1 (Classical.epsilon (fun q : Nat × Nat => hpf1 L c O q.1 q.2)).2))
      (@ite _ (∃ j, hpf2 c O j) (Classical.propDecidable _) (hpe L c d (fun k => O k ∧ k ≠ Classical.epsilon (hpf2 c O)) P) P)
theorem hpe_1 {L : Nat → Int32} {c d k s : Nat} {O : Nat → Prop} {P : Nat → Int32} (h : hpf1 L c O k s) : hpe L c (d + 1) O P = hpe L c d (fun j => (O j ∧ j ≠ s) ∧ j ≠ k) (hq_two P k s) := by
  have ex : ∃ q : Nat × Nat, hpf1 L c O q.1 q.2 := ⟨(k, s), h⟩
  have sp := Classical.epsilon_spec ex
  obtain ⟨e1, e2⟩ := hpf1_uni h sp
  have u : hpe L c (d + 1) O P = _ := @if_pos _ (Classical.propDecidable _) ex _ _ _
  rw [e1, e2] at u
  exact u
theorem hpe_2 {L : Nat → Int32} {c d j : Nat} {O : Nat → Prop} {P : Nat → Int32} (no : ∀ k s, ¬ hpf1 L c O k s) (h : hpf2 c O j) : hpe L c (d + 1) O P = hpe L c d (fun k => O k ∧ k ≠ j) P := by
  have nx : ¬ ∃ q : Nat × Nat, hpf1 L c O q.1 q.2 := fun ⟨q, w⟩ => no q.1 q.2 w
  have ex : ∃ j, hpf2 c O j := ⟨j, h⟩
  have e1 := hpf2_uni h (Classical.epsilon_spec ex)
  have u : hpe L c (d + 1) O P = _ := (@if_neg _ (Classical.propDecidable _) nx _ _ _).trans (@if_pos _ (Classical.propDecidable _) ex _ _ _)
  rw [e1] at u
  exact u
theorem hpe_0 {L : Nat → Int32} {c d : Nat} {O : Nat → Prop} {P : Nat → Int32} (no : ∀ k, k < c → ¬ O k) : hpe L c d O P = P := by
  cases d with
  | zero => rfl
  | succ d =>
    have nx : ¬ ∃ q : Nat × Nat, hpf1 L c O q.1 q.2 := fun ⟨q, w⟩ => no q.1 w.1 w.2.1
    have ny : ¬ ∃ j, hpf2 c O j := fun ⟨j, w⟩ => no j w.1 w.2.1
    exact (@if_neg _ (Classical.propDecidable _) nx _ _ _).trans (@if_neg _ (Classical.propDecidable _) ny _ _ _)
theorem hpx_unite2 {t : XT} {c f s K : Nat} {P : Nat → Int32} {G : Nat → Prop} {Q : XT → Prop} (h : hpX t c P G) (hc : c ≤ 60) (hfs : f < s) (hs : s < c) (ef : P f = -1) (es : P s = -1) (hK : 2 ≤ K) (hQ : ∀ t', hpK t' = hpK t → t'.2.1 3 = t.2.1 3 → t'.2.1 4 = t.2.1 4 → hpX t' c (hq_two P f s) G → Q t') : wqX6_unite K t (nI f) (nI s) Q := by
  have q1 : wqX6_unite K t (nI f) (nI s) (fun t' => hpK t' = hpK t ∧ hpX t' c (hq_two P f s) G) := hpx_unite h hc hfs hs ef es hK (fun t' a b => ⟨a, b⟩)
  have q2 : wqX6_unite K t (nI f) (nI s) (fun t' => t'.2.1 3 = t.2.1 3 ∧ t'.2.1 4 = t.2.1 4) := by
    obtain ⟨K, rfl⟩ : ∃ K', K = K' + 1 := ⟨K - 1, by omega⟩
    show wbX6_unite_0 (wpX6_unite K) K t (uI (uI (fun _ => 0) 1 (nI f)) 2 (nI s)) (fun _ => 0) _
    refine ⟨vp_in_nI (n := f) (by omega) (by decide), fun t1 e1 => ⟨vp_in_nI (n := s) (by omega) (by decide), fun t2 e2 => ?_⟩⟩
    refine hw_bit (k := f) (by omega) (by omega) (fun r3 g3 v4 e4 t5 e5 => hw_bit (k := s) (by omega) (by omega) (fun r6 g6 v7 e7 t8 e8 v9 e9 t10 e10 => ?_))
    exact ⟨by rw [e10, e8, e5, e2, e1]; rfl, by rw [e10, e8, e5, e2, e1]; rfl⟩
  exact wiX6_unite q1 q2 (fun t' a b => hQ t' a.1 b.1 b.2 a.2)
theorem hpx_above {t : XT} {L : Nat → Int32} {c k s K : Nat} {O : Nat → Prop} {Q : Int32 → XT → Prop} (hE : hcE t L c) (hO : hpO t L c O) (hc : c ≤ 60) (hk : k < c) (h : hpo L c O k s) (hK : 10 ≤ K) (hQ : Q (nI s) t) : wqX7_above K t (nI k) Q := by
  obtain ⟨K, rfl⟩ : ∃ K', K = K' + 1 := ⟨K - 1, by omega⟩
  have ck : (nI k).toNatClampNeg = k := nI_clamp (by omega)
  have sc := h.1
  show wbX7_above_0 (wpX7_above K) K t (uI (fun _ => 0) 1 (nI k)) (fun _ => 0) Q
  refine ⟨vp_in_nI (n := k) (by omega) (by decide), fun v1 e1 v2 e2 => ?_⟩
  have e1 : v1 = t.2.2.2 1 k := e1.trans (congrArg (t.2.2.2 1) ck)
  have b2 : ∀ r, hb v2 r = true ↔ (r < c ∧ hnF L r k ∧ O r) := fun r => by
    rw [e2, e1, hb_and, Bool.and_eq_true, hE.2.2.2.2.2.1 k r, hO.1 r]
    exact ⟨fun w => ⟨w.1.1, w.1.2, w.2.2⟩, fun w => ⟨⟨w.1, w.2.1⟩, w.1, w.2.2⟩⟩
  refine hw_lowest (j := s) (by omega) ((b2 s).mpr ⟨h.1, h.2.2.1, h.2.1⟩) (fun i hi => ?_) (by omega) hQ
  refine Bool.eq_false_iff.mpr (fun w => ?_)
  have w := (b2 i).mp w
  have := h.2.2.2 i w.1 w.2.2 w.2.1
  omega
theorem hpx_peel_go {t0 : XT} {L : Nat → Int32} {c : Nat} {X : Nat → Int32} {G : Nat → Prop} {Q : XT → Prop} (hE0 : hcE t0 L c) (hc : c ≤ 60) (hQ : ∀ t', hpK t' = hpK t0 → hpX t' c X G → Q t') :
    ∀ (d i K : Nat) (O : Nat → Prop) (P : Nat → Int32) (t : XT) (li : Nat → Int32) (lj : Nat → Int64), i + d = 60 → 2 * d + 400 ≤ K → hpK t = hpK t0 → hpX t c P G → hpO t L c O → (∀ k, k < c → O k → P k = -1) → hst_n O c ≤ d → hpe L c d O P = X → li 1 = nI i → wpX11_pairByPeeling K 1 t li lj Q := by
  intro d
  induction d with
  | zero =>
    intro i K O P t li lj hd hK hk hX hO hP hn hx e1
    obtain ⟨K, rfl⟩ : ∃ K', K = K' + 1 := ⟨K - 1, by omega⟩
    have hx : P = X := hx
    subst hx
    show wbX11_pairByPeeling_1 (wpX11_pairByPeeling K) K t li lj Q
    refine ⟨fun _ => hQ t hk hX, fun x => absurd (show nI 60 ≤ li 1 by rw [e1]; exact nI_le (by omega) (by omega)) x⟩
  | succ d ih =>
    intro i K O P t li lj hd hK hk hX hO hP hn hx e1
    obtain ⟨K, rfl⟩ : ∃ K', K = K' + 2 := ⟨K - 2, by omega⟩
    have hE := hcE_K hk hE0
    have nx : ∀ (O' : Nat → Prop) (P' : Nat → Int32) (t' : XT), hpK t' = hpK t0 → hpX t' c P' G → hpO t' L c O' → (∀ k, k < c → O' k → P' k = -1) → hst_n O' c ≤ d → hpe L c d O' P' = X → wpX11_pairByPeeling (K + 1) 2 t' li lj Q := by
      intro O' P' t' a1 a2 a3 a4 a5 a6
      show wbX11_pairByPeeling_2 (wpX11_pairByPeeling K) K t' li lj Q
      intro v e
      exact ih (i + 1) K O' P' t' _ lj (by omega) (by omega) a1 a2 a3 a4 a5 a6 (by show v = _; rw [e, e1]; exact hs_inc i)
    show wbX11_pairByPeeling_1 (wpX11_pairByPeeling (K + 1)) (K + 1) t li lj Q
    unfold wbX11_pairByPeeling_1
    rw [e1]
    refine ⟨fun x => absurd (show nI 60 ≤ nI i from x) (nI_ge (by omega) (by omega)), fun _ v3 e3 => ⟨fun z => ?_, fun nz => ?_⟩⟩
    · rw [e3] at z
      have no : ∀ k, k < c → ¬ O k := fun k hk2 ok => absurd ((hO.1 k).mpr ⟨hk2, ok⟩) (by rw [hb_z z k]; decide)
      rw [hpe_0 no] at hx
      subst hx
      exact hQ t hk hX
    · intro v5 e5
      refine ⟨fun z => ?_, fun nz5 => ?_⟩
      · rw [e5] at z
        have no : ∀ k s, ¬ hpf1 L c O k s := fun k s w => absurd ((hO.2 k).mpr ⟨w.1, w.2.1, s, w.2.2.1⟩) (by rw [hb_z z k]; decide)
        have pos : 0 < hst_n O c := by
          refine Nat.pos_of_ne_zero (fun q => nz ?_)
          have n0 := hst_0 q
          rcases @hb_ne (t.2.1 3) with y | ⟨k, _, kb, _⟩
          · rw [e3, y]; decide
          · exact absurd ((hO.1 k).mp kb).2 (n0 k ((hO.1 k).mp kb).1)
        have tot : nb 64 (un (t.2.1 3)) = hst_n O c := by
          rw [hst_nb]
          have e := hst_gap2 (p := fun k => hb (t.2.1 3) k = true) (b := c) (j := 64) (by omega) (fun k a _ y => absurd ((hO.1 k).mp y).1 (by omega))
          rw [e]
          exact hst_eqv c (fun k hk => (hO.1 k).trans ⟨fun y => y.2, fun y => ⟨hk, y⟩⟩)
        have lc := hst_le O c
        refine hw_bc64 (by omega) ?_
        intro v8 e8
        obtain ⟨r, hr⟩ : ∃ r, hst_n O c = r + 1 := ⟨hst_n O c - 1, by omega⟩
        have e8 : v8 = nI r := by rw [e8, tot, hr]; exact nI_pred r
        rw [e8]
        refine hx_nth (by omega) (by omega) (fun j j64 jb jn => ?_)
        have jO := (hO.1 j).mp jb
        have jr : hst_n O j = r := by rw [← jn]; exact (hst_eqv j (fun k hk => (hO.1 k).trans ⟨fun y => y.2, fun y => ⟨by omega, y⟩⟩)).symm
        have gr : hpf2 c O j := by
          refine ⟨jO.1, jO.2, fun k hk ok => Nat.le_of_not_lt (fun q => ?_)⟩
          have m1 := hst_mono (p := O) (a := j + 1) (k - (j + 1))
          rw [show j + 1 + (k - (j + 1)) = k by omega] at m1
          have m2 := hst_mono (p := O) (a := k + 1) (c - (k + 1))
          rw [show k + 1 + (c - (k + 1)) = c by omega] at m2
          have s1 : hst_n O (j + 1) = hst_n O j + 1 := by show hst_n O j + hq_sel (O j) 1 = _; rw [hq_sel1 jO.2]
          have s2 : hst_n O (k + 1) = hst_n O k + 1 := by show hst_n O k + hq_sel (O k) 1 = _; rw [hq_sel1 ok]
          omega
        refine hpx_close hE hO hc jO.1 (by omega) (fun t' n' o' => ?_)
        rw [hpe_2 no gr] at hx
        have hdel := hst_del jO.1 jO.2
        exact nx _ P t' ((congrArg (fun q => q.1) n').trans hk) (hpX_N n' hX) o' (fun k hk ok => hP k hk ok.1) (by omega) hx
      · rcases @hb_ne (t.2.1 4) with z | ⟨j, j64, jb, jl⟩
        · exact absurd (by rw [e5, z]; decide) nz5
        obtain ⟨jc, jo, s, js⟩ := (hO.2 j).mp jb
        have pl : hpf1 L c O j s := ⟨jc, jo, js, fun i hi r w => absurd ((hO.2 i).mpr ⟨by omega, w.1, r, w.2⟩) (by rw [jl i hi]; decide)⟩
        have sc := js.1
        have js2 : j < s := js.2.2.1.1
        refine hw_lowest j64 jb jl (by omega) ?_
        refine hpx_above hE hO hc jc js (by omega) ?_
        refine hpx_unite2 hX hc js2 sc (hP j jc jo) (hP s sc js.2.1) (by omega) (fun t13 k13 l3 l4 x13 => ?_)
        have hE13 := hcE_K (k13.trans hk) hE0
        have hO13 : hpO t13 L c O := by
          unfold hpO
          rw [l3, l4]
          exact hO
        refine hpx_close hE13 hO13 hc sc (by omega) (fun t14 n14 o14 => ?_)
        have k14 : hpK t14 = hpK t0 := (congrArg (fun q => q.1) n14).trans (k13.trans hk)
        refine hpx_close (hcE_K k14 hE0) o14 hc jc (by omega) (fun t15 n15 o15 => ?_)
        have k15 : hpK t15 = hpK t0 := (congrArg (fun q => q.1) n15).trans k14
        rw [hpe_1 pl] at hx
        have d1 := hst_del sc js.2.1
        have d2 := hst_del (p := fun k => O k ∧ k ≠ s) jc ⟨jo, by omega⟩
        refine nx _ _ t15 k15 (hpX_N n15 (hpX_N n14 x13)) o15 (fun k hk ok => ?_) (by omega) hx
        show (if k = s then nI j else if k = j then nI s else P k) = -1
        rw [if_neg ok.1.2, if_neg ok.2]
        exact hP k hk ok.1.1
theorem hpx_peel {t : XT} {L P : Nat → Int32} {c K : Nat} {G : Nat → Prop} {Q : XT → Prop} (hE : hcE t L c) (hc : c ≤ 60) (hX : hpX t c P G) (hP : ∀ k, k < c → P k = -1) (hK : 600 ≤ K) (hQ : ∀ t', hpK t' = hpK t → hpX t' c (hpe L c 60 (fun k => ¬ G k) P) G → Q t') : wqX11_pairByPeeling K t Q := by
  obtain ⟨K, rfl⟩ : ∃ K', K = K' + 1 := ⟨K - 1, by omega⟩
  show wbX11_pairByPeeling_0 (wpX11_pairByPeeling K) K t (fun _ => 0) (fun _ => 0) Q
  refine hpx_begin hE hX hc (by omega) (fun t1 n1 o1 => ?_)
  have l := hst_le (fun k => ¬ G k) c
  exact hpx_peel_go hE hc hQ 60 0 K _ _ t1 _ _ (by omega) (by omega) (congrArg (fun q => q.1) n1) (hpX_N n1 hX) o1 (fun k hk _ => hP k hk) (Nat.le_trans l hc) rfl rfl
