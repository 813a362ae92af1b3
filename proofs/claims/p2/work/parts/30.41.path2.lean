/-! ===== path answers alike ===== -/
theorem hw_bits_long {a : Int32} (h : ¬ a < 0) : ∃ x : Nat, x < 2 ^ 31 ∧ a.toInt64 = lN x := by
  have h1 : (0 : Int32).toInt ≤ a.toInt := Int32.le_iff_toInt_le.mp (Int32.not_lt.mp h)
  have h1 : 0 ≤ a.toInt := h1
  have h2 := Int32.toInt_lt a
  refine ⟨a.toInt.toNat, by omega, Int64.toInt_inj.mp ?_⟩
  rw [pk_lT (show a.toInt.toNat < 2 ^ 63 by omega)]
  show (a.toInt64).toInt = _
  rw [Int32.toInt_toInt64]
  omega
/-- the class's trace from a CRITICAL one, behind countWays -/
theorem hpx_trace {t tm : XT} {L : Nat → Int32} {c s e n' x K : Nat} {A : Nat → Nat} {W : Nat → Int64} {l : List Nat} {Q : Int32 → XT → Prop} (hE : hcE t L c) (hM : hmE tm L c) (hL : hnL L c) (hP : hPJ t tm c) (hI : hq_inv tm c n') (hF : h6_F t) (hs : s < c) (he : e < c) (gs : hm_gone tm s = 0) (ds : hm_dim tm s = hm_dim tm e + 1) (hA : hwf tm c e A) (hA2 : ∀ x, x < c → A x < 2 ^ 62) (h1 : ∀ x, x < c → hm_gone tm x = 0 → W x = lN (hwV tm c s e A x)) (h2 : ∀ x, x < 64 → (x < c → hm_gone tm x ≠ 0) → W x = 0) (hx : x < 2 ^ 62) (hp : hpt tm c e A l s x) (hlen : 1 + l.length ≤ 60) (hK : 10000 ≤ K) (hQ : ∀ z, Q (nI (1 + l.length)) (hts (sB t 4 W) z (hpr (upd (t.2.2.1 8) 0 (nI s)) 1 l))) : wqX1_trace K (sB t 4 W) (nI s) (nI e) (lN x) Q := by
  obtain ⟨K, rfl⟩ : ∃ K', K = K' + 1 := ⟨K - 1, by omega⟩
  show wbX1_trace_0 (wpX1_trace K) K (sB t 4 W) (uI (uI (fun _ => 0) 1 (nI s)) 2 (nI e)) (uI (fun _ => 0) 3 (lN x)) Q
  intro t1 e1
  refine ⟨vp_in_nI (n := 0) (by omega) (by decide), fun t2 e2 => ?_⟩
  have e2 : t2 = hts (sB t 4 W) x (upd (t.2.2.1 8) 0 (nI s)) := by rw [e2, e1]; rfl
  rw [e2]
  refine hpx_trace_go (u := sB t 4 W) hE hM hL hP hI hF he hA2 (fun a ha ga da y hy hb' => ?_) l.length l s x 1 K _ _ (Nat.le_refl _) hp hs gs ds hx hlen (by omega) rfl rfl rfl hQ
  obtain ⟨_, yf⟩ := hw_belowF (t := t) hE hb'
  have yc : y < c := by
    have := yf.1
    omega
  show W y = _
  by_cases gy : hm_gone tm y = 0
  · rw [hq_sel1 gy, h1 y yc gy]
    have fb := (hw_below (t := t) hE hM hL hP ha yc ga gy).mp hb'
    have dy : hm_dim tm y = hm_dim tm e := hw_cancel (by rw [← fb.1.2.2.1, da])
    rw [hwV_A hA he yc gy dy ds]
  · rw [hq_sel0 gy]
    exact h2 y hy (fun _ => gy)
/-- the list of the k-th PATH, its length -/
theorem hpt_get {tm : XT} {c s e n' x : Nat} {A : Nat → Nat} (hc : c ≤ 60) (hI : hq_inv tm c n') (hA : hwf tm c e A) (hs : s < c) (cs : hm_crit tm s) (ce : hm_crit tm e) (ds : hm_dim tm s = hm_dim tm e + 1) (hx : x < hwT tm c s A) : ∃ l, hpt tm c e A l s x ∧ 1 + l.length ≤ 60 := by
  obtain ⟨δ, d1, d2⟩ := hI.2.2.2.2.1
  obtain ⟨l, h1, h2, h3⟩ := hpt_ex hc hI hA ce d2 60 60 (Nat.le_refl _) s x hs (fun f hf _ _ lo => d1 f hf lo) hx
  refine ⟨l, h1, ?_⟩
  have ns : s ∉ l := by
    intro z
    rcases (h3 s z).2 with w | w | ⟨f, f1, f2, _, f4⟩
    · rw [w] at ds; exact hw_succ_ne _ ds
    · exact w.1.1 cs.2
    · rcases hI.2.2.2.1 f f1 with y | ⟨p, hp, ep, eb, _⟩
      · exact f2.1 y
      · have : p = s := (nI_eq (by omega) (by omega)).mp (ep.symm.trans f4)
        rw [this] at eb
        exact hs_nI_neg (by omega) (eb.symm.trans cs.2)
  have := hpt_len (c := c) (List.nodup_cons.mpr ⟨ns, h2⟩) (fun y hy => (List.mem_cons.mp hy).elim (fun w => by rw [w]; exact hs) (fun w => (h3 y w).1))
  have e : (s :: l).length = l.length + 1 := rfl
  omega
theorem hpr_two {R R' : Nat → Int32} {s i : Nat} {l : List Nat} (hi : i < 1 + l.length) : hpr (upd R 0 (nI s)) 1 l i = hpr (upd R' 0 (nI s)) 1 l i := by
  cases i with
  | zero => rw [hpr_lo _ _ _ _ (by omega), hpr_lo _ _ _ _ (by omega)]; rfl
  | succ i =>
    have a := hpr_at l (upd R 0 (nI s)) 1 i (by omega)
    have b := hpr_at l (upd R' 0 (nI s)) 1 i (by omega)
    rw [show i + 1 = 1 + i by omega, a, b]
theorem hmx_path0 {K : Nat} {t : XT} {a b c d : Int32} {Q : Int32 → XT → Prop} (h : wbX12_path_0 (wpX12_path (K + 1)) (K + 1) t (uI (uI (uI (uI (fun _ => 0) 1 a) 2 b) 3 c) 4 d) (fun _ => 0) Q) : wqX12_path (K + 2) t a b c d Q := h
theorem hpx_path0 {K : Nat} {t : XT} {a b c d : Int32} {Q : Int32 → XT → Prop} (h : wbX11_path_0 (wpX11_path (K + 1)) (K + 1) t (uI (uI (uI (uI (fun _ => 0) 1 a) 2 b) 3 c) 4 d) (fun _ => 0) Q) : wqX11_path (K + 2) t a b c d Q := h
theorem hpa_ix {d : Int32} {n : Nat} (hn : n < 1000) (d0 : (-1 : Int32) ≤ d) (nd : ¬ d = -1) (lt : ¬ nI n ≤ d) : ∃ i, i < n ∧ d = nI i := by
  have q1 : (-1 : Int32).toInt ≤ d.toInt := Int32.le_iff_toInt_le.mp d0
  have q1 : (-1 : Int) ≤ d.toInt := q1
  have q2 : d.toInt ≠ -1 := fun z => nd (Int32.toInt_inj.mp z)
  have q3 : d.toInt < (nI n).toInt := Int32.lt_iff_toInt_lt.mp (Int32.not_le.mp lt)
  rw [nI_toInt (by omega)] at q3
  refine ⟨d.toInt.toNat, by omega, Int32.toInt_inj.mp ?_⟩
  rw [nI_toInt (by omega)]
  omega
theorem hac_path (n : Nat) (tx tm : XT) (p1 p2 p3 p4 : Int32) (hJ : hAl (n + 1) tx tm) (g : hNk (n + 1) tx) : ∃ k, wqX11_path k tx p1 p2 p3 p4 (fun r1 tx' => ∃ k', wqX12_path k' tm p1 p2 p3 p4 (fun r2 tm' => r1 = r2 ∧ hAl n tx' tm')) := by
  obtain ⟨hJ', c, L, hL, hE, hM, hP, _, _⟩ := id hJ
  have hc := hL.1
  obtain ⟨n', hI⟩ := hal_inv hJ' hM hc
  have hF := hf6_of hJ'
  obtain ⟨KA, hKA⟩ : ∃ KA, KA = 300000 := ⟨_, rfl⟩
  refine hfa_path (A := KA + 2) (B := KA + 2) hJ ?_
  have none : ((∀ s e, s < c → e < c → p1 = nI s → p2 = nI e → ¬ hEnds tm s e) ∨ p3 < 0 ∨ ¬ (-1 : Int32) ≤ p4) → wqX12_path (KA + 2) tm p1 p2 p3 p4 (fun r2 _ => (-1 : Int32) = r2) := by
    intro w
    refine hmx_path0 (hmx_areEnds hM.1 hc (by omega) (fun s e hs he ea eb q => ⟨fun z => absurd z (by decide), fun _ => ⟨fun _ => rfl, fun a => ⟨fun b => ?_, fun _ => rfl⟩⟩⟩) (fun _ => ⟨fun _ => rfl, fun z => absurd rfl z⟩))
    rcases w with w | w | w
    · exact absurd q (w s e hs he ea eb)
    · exact absurd w a
    · exact absurd b w
  refine hpx_path0 (hpx_areEnds hE hM hP hc (by omega) (fun s e hs he ea eb q => ⟨fun z => absurd z (by decide), fun _ => ⟨fun a => none (Or.inr (Or.inl a)), fun a => ⟨fun b v5 e5 => ?_, fun b => none (Or.inr (Or.inr b))⟩⟩⟩) (fun no => ⟨fun _ => none (Or.inl no), fun z => absurd rfl z⟩))
  have ea : p1 = nI s := ea
  have eb : p2 = nI e := eb
  subst ea
  subst eb
  have a : ¬ p3 < 0 := a
  have b : (-1 : Int32) ≤ p4 := b
  obtain ⟨x, hx, ex⟩ := hw_bits_long a
  have e5 : v5 = lN x := e5.trans ex
  subst e5
  obtain ⟨W0, A0, hA0⟩ := hfull_ex hM.1 hc hI.2.2.2.1 hI.2.2.2.2.1 he
  have hA := hA0.2.2
  have bnd : ∀ y, y < c → A0 y < 2 ^ 62 := by
    intro y hy
    have h1 := hq_sum_at (A := A0) (g := y) c hy
    have h2 := hA0.2.1
    have h3 : (2 : Nat) ^ 60 < 2 ^ 62 := by decide
    omega
  have se : s ≠ e := fun z => by rw [z] at q; exact hw_succ_ne _ q.2.2
  have tl : hwT tm c s A0 < 2 ^ 62 := by
    rw [hwT_crit hc q.1.2]
    have h1 : hq_tot tm c 60 s A0 ≤ hm_sum A0 c := hq_tot_le
    have h2 := hA0.2.1
    have h3 : (2 : Nat) ^ 60 < 2 ^ 62 := by decide
    omega
  have p62 : (2 : Nat) ^ 62 < 2 ^ 63 := by decide
  have p31 : (2 : Nat) ^ 31 < 2 ^ 62 := by decide
  have lists : x < hwT tm c s A0 → ∃ l, hpt tm c e A0 l s x ∧ 1 + l.length ≤ 60 := fun lt => hpt_get hc hI hA hs q.1 q.2.1 q.2.2 lt
  refine hpx_countWays hE hM hL hP hI hF g hs he q.1.1 q.2.2 hA (by omega) (fun t' W h o g' fr hE' hP' hT w1 w2 v7 e7 => ?_)
  have e7 : v7 = lg_cmp (lN x) (W s) := e7
  rw [w1 s hs q.1.1, hwV_T se rfl] at e7
  have cmp : v7 < 0 ↔ x < hwT tm c s A0 := by
    rw [e7, lg_cmp_lt]
    exact hq_lN_lt (by omega) (by omega)
  refine ⟨fun lt v9 e9 => ?_, fun nlt => ?_⟩
  · have lt := cmp.mp lt
    have e9 : v9 = lN x := e9.trans ex
    subst e9
    obtain ⟨l, hp, hlen⟩ := lists lt
    have ref : ∀ {r1 : Int32}, (∀ R : Nat → Int32, (p4 = -1 → nI (1 + l.length) = r1) ∧ (¬ p4 = -1 → (nI (1 + l.length) ≤ p4 → (-2 : Int32) = r1) ∧ (¬ nI (1 + l.length) ≤ p4 → hpr (upd R 0 (nI s)) 1 l p4.toNatClampNeg = r1))) → wqX12_path (KA + 2) tm (nI s) (nI e) p3 p4 (fun r2 _ => r1 = r2) := by
      intro r1 hr
      refine hmx_path0 (hmx_areEnds hM.1 hc (by omega) (fun s' e' _ _ _ _ _ => ⟨fun z => absurd z (by decide), fun _ => ⟨fun a' => absurd a' a, fun _ => ⟨fun _ v6 e6 => ?_, fun b' => absurd b b'⟩⟩⟩) (fun no => absurd q (no s e hs he rfl rfl)))
      have e6 : v6 = lN x := e6.trans ex
      subst e6
      refine hmx_laysPath (l := l) hM.1 hc hI.2.2.2.1 hI.2.2.2.2.1 hs he q.1.2 q.2.1.2 q.2.2 (by omega) hA (by omega) (fun W G _ _ _ => ⟨fun _ => ⟨fun nd => ⟨fun le => ?_, fun nle => ?_⟩, fun d => ?_⟩, fun z => absurd z (by decide)⟩) (fun _ => ⟨hp, by omega⟩) (fun W G no => absurd lt no)
      · exact ((hr (tm.2.2.1 10)).2 nd).1 le |>.symm ▸ rfl
      · obtain ⟨i, hi, ei⟩ := hpa_ix (d := p4) (n := 1 + l.length) (by omega) b nd nle
        refine ⟨by show vp_in p4 122; rw [ei]; exact vp_in_nI (n := i) (by omega) (by decide), fun v10 e10 => ?_⟩
        exact (((hr (tm.2.2.1 10)).2 nd).2 nle).symm.trans e10.symm
      · exact ((hr (tm.2.2.1 10)).1 d).symm
    refine hpx_trace hE' hM hL hP' hI (hf6_fr fr hF) hs he q.1.1 q.2.2 hA bnd w1 w2 (by omega) hp hlen (by omega) (fun z => ⟨fun nd => ⟨fun le => ?_, fun nle => ?_⟩, fun d => ?_⟩)
    · exact ref (fun R => ⟨fun d => absurd d nd, fun _ => ⟨fun _ => rfl, fun nle => absurd le nle⟩⟩)
    · obtain ⟨i, hi, ei⟩ := hpa_ix (d := p4) (n := 1 + l.length) (by omega) b nd nle
      refine ⟨by show vp_in p4 64; rw [ei]; exact vp_in_nI (n := i) (by omega) (by decide), fun v13 e13 => ?_⟩
      refine ref (fun R => ⟨fun d => absurd d nd, fun _ => ⟨fun le => absurd le nle, fun _ => ?_⟩⟩)
      have ci : p4.toNatClampNeg = i := by rw [ei]; exact hw_clamp (by omega)
      have e13 : v13 = hpr (upd (t'.2.2.1 8) 0 (nI s)) 1 l p4.toNatClampNeg := e13
      rw [e13, ci]
      exact hpr_two hi
    · exact ref (fun R => ⟨fun _ => rfl, fun nd => absurd d nd⟩)
  · have nlt : ¬ x < hwT tm c s A0 := fun z => nlt (cmp.mpr z)
    refine hmx_path0 (hmx_areEnds hM.1 hc (by omega) (fun s' e' _ _ _ _ _ => ⟨fun z => absurd z (by decide), fun _ => ⟨fun a' => absurd a' a, fun _ => ⟨fun _ v6 e6 => ?_, fun b' => absurd b b'⟩⟩⟩) (fun no => absurd q (no s e hs he rfl rfl)))
    have e6 : v6 = lN x := e6.trans ex
    subst e6
    exact hmx_laysPath (l := []) hM.1 hc hI.2.2.2.1 hI.2.2.2.2.1 hs he q.1.2 q.2.1.2 q.2.2 (by omega) hA (by omega) (fun W G lt _ _ => absurd lt nlt) (fun lt => absurd lt nlt) (fun W G _ => ⟨fun z => absurd rfl z, fun _ => rfl⟩)
