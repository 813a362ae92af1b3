/-! ===== root answers alike ===== -/
theorem hal_geo {n : Nat} {tx tm : XT} {L : Nat → Int32} {c : Nat} (hJ : hJt n tx tm) (hM : hmE tm L c) (hc : c ≤ 60) : hq_geo tm c := by
  obtain ⟨z, x, hR, _⟩ := hJ
  obtain ⟨_, _, _, m, n', hI, hg⟩ := hR
  obtain rfl : m = c := (nI_eq (by have := hI.2.1; omega) (by omega)).mp (hI.1.symm.trans hM.1)
  exact hg
def hrt_B (a b : Nat) : Bool := if hm_bc (nI b) = 2 then (if nI a &&& (nI b ^^^ (-1)) = 0 then hq_allB (fun y => if hm_bc (nI y) = 1 then (if nI y &&& (nI b ^^^ (-1)) = 0 then (decide (y = a) || decide (y = b - a)) else true) else true) 256 else true) else true
def hrt_A (a : Nat) : Bool := if hm_bc (nI a) = 1 then hq_allB (hrt_B a) 256 else true
theorem hrt_K : hq_allB hrt_A 256 = true := by decide +kernel
theorem hrt_two {a b y : Nat} (ha : a < 256) (hb' : b < 256) (hy : y < 256) (h1 : hm_bc (nI a) = 1) (h2 : hm_bc (nI b) = 2) (h3 : nI a &&& (nI b ^^^ (-1)) = 0) (h4 : hm_bc (nI y) = 1) (h5 : nI y &&& (nI b ^^^ (-1)) = 0) : y = a ∨ y = b - a := by
  have k := hq_allB_at 256 hrt_K a ha
  unfold hrt_A at k
  rw [if_pos h1] at k
  have k2 := hq_allB_at 256 k b hb'
  unfold hrt_B at k2
  rw [if_pos h2, if_pos h3] at k2
  have k3 := hq_allB_at 256 k2 y hy
  have k3 : (if hm_bc (nI y) = 1 then (if nI y &&& (nI b ^^^ (-1)) = 0 then (decide (y = a) || decide (y = b - a)) else true) else true) = true := k3
  rw [if_pos h4, if_pos h5, Bool.or_eq_true] at k3
  exact k3.elim (fun q => Or.inl (of_decide_eq_true q)) (fun q => Or.inr (of_decide_eq_true q))
/-- the other end of an edge -/
theorem hrt_other {tm : XT} {L : Nat → Int32} {c i p : Nat} (hM : hmE tm L c) (hL : hnL L c) (hg : hq_geo tm c) (hi : i < c) (hp : p < c) (hb1 : hm_bc (hm_let tm i) = 1) (fc : hm_face tm i p) : ∃ j z, j < c ∧ z < 256 ∧ j ≠ i ∧ hm_face tm j p ∧ hm_bc (hm_let tm j) = 1 ∧ hm_let tm p &&& (hm_let tm i ^^^ (-1)) = nI z ∧ tm.2.2.1 3 z = nI j ∧ ∀ x, x < c → (hm_face tm x p ↔ (x = i ∨ x = j)) := by
  have hc := hL.1
  obtain ⟨x, x0, x1, x2⟩ := hg.1 i hi
  obtain ⟨y, y0, y1, y2⟩ := hg.1 p hp
  have z1 := fc.1
  have z2 := fc.2
  unfold hm_dim at z1
  rw [hb1, y2] at z1
  rw [x2, y2] at z2
  rw [x2] at hb1
  have b2 : hm_bc (nI y) = 2 := by
    have w : hm_bc (nI y) - 1 + 1 = (1 : Int32) - 1 + 1 + 1 := congrArg (· + 1) z1
    rw [Int32.sub_add_cancel] at w
    exact w.trans (by decide)
  obtain ⟨c1, c0, c2, c3, c4, c5, c6⟩ := hq_edge0 x x1 hb1 y y1 b2 z2
  obtain ⟨j, hj, j1, j2⟩ := hg.2.2 p y (y - x) hp y1 y2 c0 c6
  have inj : ∀ u v w : Nat, u < c → v < c → w < 256 → hm_let tm u = nI w → hm_let tm v = nI w → u = v := by
    intro u v w hu hv hw eu ev
    have a := (hnO_at (L := L) (b := w) (f := u) (by omega) c hc hL.2.1).mpr ⟨hu, (hM.2.1 u hu).symm.trans eu⟩
    have b := (hnO_at (L := L) (b := w) (f := v) (by omega) c hc hL.2.1).mpr ⟨hv, (hM.2.1 v hv).symm.trans ev⟩
    exact (nI_eq (by omega) (by omega)).mp (a.symm.trans b)
  have fj : hm_face tm j p := by
    refine ⟨?_, by rw [j2, y2]; exact c5⟩
    unfold hm_dim
    rw [j2, y2, c3, b2]; decide
  refine ⟨j, y - x, hj, c1, ?_, fj, by rw [j2]; exact c3, by rw [x2, y2]; exact c2, j1, fun u hu => ⟨fun w => ?_, fun w => ?_⟩⟩
  · intro q
    rw [q, x2] at j2
    exact c4 ((nI_eq (by omega) (by omega)).mp j2).symm
  · obtain ⟨v, v0, v1, v2⟩ := hg.1 u hu
    have w1 := w.1
    have w2 := w.2
    unfold hm_dim at w1
    rw [v2, y2, b2] at w1
    rw [v2, y2] at w2
    have bv : hm_bc (nI v) = 1 := by
      rw [Int32.sub_add_cancel] at w1
      exact w1.symm.trans (by decide)
    rcases hrt_two x1 y1 v1 hb1 b2 z2 bv w2 with q | q
    · exact Or.inl (inj u i x hu hi x1 (by rw [v2, q]) x2)
    · exact Or.inr (inj u j (y - x) hu hj c1 (by rw [v2, q]) j2)
  · rcases w with w | w
    · rw [w]; exact fc
    · rw [w]; exact fj
theorem hrt_up {tm : XT} {c i p : Nat} (hg : hq_geo tm c) (hp : p < c) (hb1 : hm_bc (hm_let tm i) = 1) (fc : hm_face tm p i) : False := by
  obtain ⟨x, x0, x1, x2⟩ := hg.1 p hp
  have z := fc.1
  unfold hm_dim at z
  rw [hb1, x2] at z
  refine hq_bc0 x x1 x0 ?_
  have z2 : hm_bc (nI x) - 1 + 1 = (1 : Int32) - 1 := z.symm
  rw [Int32.sub_add_cancel] at z2
  exact z2.trans (by decide)
def hrtX (t : XT) (i N e m : Nat) : Prop := ∀ (K : Nat) (li : Nat → Int32) (lj : Nat → Int64) (Q : Int32 → XT → Prop) (q s : Nat), N + 10 ≤ K → li 3 = nI i → li 4 = nI q → li 5 = nI s → s + N ≤ 60 → q + N ≤ 60 → Q (if li 2 = 0 then nI e else nI (q + m)) t → wpX11_root K 2 t li lj Q
def hrtM (t : XT) (i N e m : Nat) : Prop := ∀ (K : Nat) (li : Nat → Int32) (lj : Nat → Int64) (Q : Int32 → XT → Prop) (q : Nat), N + 10 ≤ K → li 3 = nI i → li 4 = nI q → q + N ≤ 60 → Q (if li 2 = 0 then nI e else nI (q + m)) t → wpX12_root K 2 t li lj Q
theorem hrt_end {tx tm : XT} {c i N : Nat} (hc : c ≤ 60) (hi : i < c) (hP : hPJ tx tm c) (e : hm_par tm i = -1) : hrtX tx i N i 0 ∧ hrtM tm i N i 0 := by
  have ci : (nI i).toNatClampNeg = i := nI_clamp (by omega)
  refine ⟨fun K li lj Q q s hK e3 e4 e5 hs hq hQ => ?_, fun K li lj Q q hK e3 e4 hq hQ => ?_⟩
  · obtain ⟨K, rfl⟩ : ∃ K', K = K' + 2 := ⟨K - 2, by omega⟩
    have thr : wpX11_root (K + 1) 3 tx li lj Q := by
      show wbX11_root_3 (wpX11_root K) K tx li lj Q
      unfold wbX11_root_3
      rw [e3, e4]
      refine ⟨fun nz => ?_, fun z => ?_⟩
      · rw [if_neg nz] at hQ; exact hQ
      · rw [if_pos z] at hQ; exact hQ
    show wbX11_root_2 (wpX11_root (K + 1)) (K + 1) tx li lj Q
    unfold wbX11_root_2
    rw [e3]
    refine ⟨fun _ => thr, fun _ => ⟨vp_in_nI (n := i) (by omega) (by decide), fun v8 f8 => ⟨fun _ => thr, fun nz => ?_⟩⟩⟩
    rw [ci, hP.1 i hi] at f8
    exact absurd (f8.trans e) nz
  · obtain ⟨K, rfl⟩ : ∃ K', K = K' + 1 := ⟨K - 1, by omega⟩
    show wbX12_root_2 (wpX12_root K) K tm li lj Q
    unfold wbX12_root_2
    rw [e3, e4]
    refine ⟨vp_in_nI (n := i) (by omega) (by decide), fun v7 f7 => ⟨fun _ => ⟨fun nz => ?_, fun z => ?_⟩, fun nz => ?_⟩⟩
    · rw [if_neg nz] at hQ; exact hQ
    · rw [if_pos z] at hQ; exact hQ
    · rw [ci] at f7
      exact absurd (f7.trans e) nz
theorem hrt_walk {tx tm : XT} {L : Nat → Int32} {c : Nat} {δ : Nat → Nat} (hE : hcE tx L c) (hM : hmE tm L c) (hL : hnL L c) (hP : hPJ tx tm c) (hMt : hm_match tm c) (hg : hq_geo tm c)
    (d2 : ∀ f g, f < c → g < c → hm_low tm f → hm_low tm g → g ≠ f → hm_on tm f g → δ g < δ f) :
    ∀ N i, i < c → hm_bc (hm_let tm i) = 1 → (hm_low tm i → δ i < N) → ∃ e m, m ≤ N ∧ hrtX tx i N e m ∧ hrtM tm i N e m := by
  have hc := hL.1
  intro N
  induction N with
  | zero =>
    intro i hi hb1 hu
    rcases hMt i hi with q | ⟨p, hp, ep, ep2, ⟨lt, fc⟩ | ⟨lt, fc⟩⟩
    · exact ⟨i, 0, Nat.le_refl 0, hrt_end hc hi hP q⟩
    · exact absurd (hu ((hm_low_iff (by omega) (by omega) ep).mpr lt)) (by omega)
    · exact (hrt_up hg hp hb1 fc).elim
  | succ N ih =>
    intro i hi hb1 hu
    rcases hMt i hi with q | ⟨p, hp, ep, ep2, ⟨lt, fc⟩ | ⟨lt, fc⟩⟩
    · exact ⟨i, 0, Nat.zero_le _, hrt_end hc hi hP q⟩
    · obtain ⟨j, z, hj, hz, ne, fj, bj, ez, nz, two⟩ := hrt_other hM hL hg hi hp hb1 fc
      have lo := (hm_low_iff (by omega) (by omega) ep).mpr lt
      obtain ⟨e, m, hm, hX, hM2⟩ := ih j hj bj (fun lj => by
        have := d2 i j hi hj lo lj ne ⟨p, by omega, ep, fj⟩
        have := hu lo
        omega)
      have ci : (nI i).toNatClampNeg = i := nI_clamp (by omega)
      have cp : (nI p).toNatClampNeg = p := nI_clamp (by omega)
      refine ⟨e, m + 1, by omega, fun K li lj Q q s hK e3 e4 e5 hs hq hQ => ?_, fun K li lj Q q hK e3 e4 hq hQ => ?_⟩
      · obtain ⟨K, rfl⟩ : ∃ K', K = K' + 1 := ⟨K - 1, by omega⟩
        show wbX11_root_2 (wpX11_root K) K tx li lj Q
        unfold wbX11_root_2
        rw [e3, e5]
        refine ⟨fun y => absurd (show nI 60 ≤ nI s from y) (nI_ge (by omega) (by omega)), fun _ => ⟨vp_in_nI (n := i) (by omega) (by decide), fun v8 f8 => ⟨fun y => ?_, fun _ => ⟨vp_in_nI (n := i) (by omega) (by decide), fun v10 f10 => ?_⟩⟩⟩⟩
        · rw [ci, hP.1 i hi] at f8
          exact absurd ((f8.trans ep).symm.trans y) (hs_nI_neg (by omega))
        · rw [ci, hP.1 i hi] at f10
          have f10 : v10 = nI p := f10.trans ep
          subst f10
          refine ⟨vp_in_nI (n := p) (by omega) (by decide), fun v11 f11 => hw_bit (k := i) (by omega) (by omega) (fun r12 f12 v13 f13 v14 f14 => ?_)⟩
          rw [cp] at f11
          have b14 : ∀ x, x < 64 → (hb v14 x = true ↔ x = j) := by
            intro x hx
            rw [f14, hb_and, Bool.and_eq_true, f13, hb_not _ hx, hb_one f12, f11, hE.2.2.2.2.1 p x]
            refine ⟨fun w => ?_, fun w => ?_⟩
            · have xc : x < c := by
                have := w.1.2.1
                omega
              rcases (two x xc).mp ((hf_face hM hL xc hp).mpr w.1.2) with q | q
              · rw [q, decide_eq_true rfl] at w; exact absurd w.2 (by decide)
              · exact q
            · rw [w]
              exact ⟨⟨hp, (hf_face hM hL hj hp).mp fj⟩, by rw [decide_eq_false (fun y => ne y.symm)]; rfl⟩
          refine hw_lowest (j := j) (by omega) ((b14 j (by omega)).mpr rfl) (fun y hy => ?_) (by omega) (fun v16 f16 v17 f17 => ?_)
          · cases w : hb v14 y with
            | false => rfl
            | true => have := (b14 y (by omega)).mp w; omega
          · refine hX K _ lj Q (q + 1) (s + 1) (by omega) rfl (by show v16 = _; rw [f16, e4]; exact hs_inc q) (by show v17 = _; rw [f17]; exact hs_inc s) (by omega) (by omega) ?_
            rw [show q + 1 + m = q + (m + 1) by omega]; exact hQ
      · obtain ⟨K, rfl⟩ : ∃ K', K = K' + 1 := ⟨K - 1, by omega⟩
        show wbX12_root_2 (wpX12_root K) K tm li lj Q
        unfold wbX12_root_2
        rw [e3]
        refine ⟨vp_in_nI (n := i) (by omega) (by decide), fun v7 f7 => ⟨fun y => ?_, fun _ => ⟨vp_in_nI (n := i) (by omega) (by decide), fun v10 f10 => ?_⟩⟩⟩
        · rw [ci] at f7
          exact absurd ((f7.trans ep).symm.trans y) (hs_nI_neg (by omega))
        · rw [ci] at f10
          have f10 : v10 = nI p := f10.trans ep
          subst f10
          refine ⟨vp_in_nI (n := p) (by omega) (by decide), fun v11 f11 => ⟨vp_in_nI (n := i) (by omega) (by decide), fun v12 f12 v13 f13 v14 f14 => ?_⟩⟩
          rw [cp] at f11
          rw [ci] at f12
          have f14 : v14 = nI z := by rw [f14, f13, f12, f11]; exact ez
          subst f14
          refine ⟨vp_in_nI (n := z) hz (by decide), fun v15 f15 v16 f16 => ?_⟩
          rw [nI_clamp (by omega), nz] at f15
          refine hM2 K _ lj Q (q + 1) (by omega) f15 (by show v16 = _; rw [f16, e4]; exact hs_inc q) (by omega) ?_
          rw [show q + 1 + m = q + (m + 1) by omega]; exact hQ
    · exact (hrt_up hg hp hb1 fc).elim
theorem hpx_root0 {K : Nat} {t : XT} {a b : Int32} {Q : Int32 → XT → Prop} (h : wbX11_root_0 (wpX11_root (K + 1)) (K + 1) t (uI (uI (fun _ => 0) 1 a) 2 b) (fun _ => 0) Q) : wqX11_root (K + 2) t a b Q := h
theorem hmx_root0 {K : Nat} {t : XT} {a b : Int32} {Q : Int32 → XT → Prop} (h : wbX12_root_0 (wpX12_root (K + 1)) (K + 1) t (uI (uI (fun _ => 0) 1 a) 2 b) (fun _ => 0) Q) : wqX12_root (K + 2) t a b Q := h
theorem hac_root (n : Nat) (tx tm : XT) (p1 p2 : Int32) (hJ : hAl (n + 1) tx tm) : ∃ k, wqX11_root k tx p1 p2 (fun r1 tx' => ∃ k', wqX12_root k' tm p1 p2 (fun r2 tm' => r1 = r2 ∧ hAl n tx' tm')) := by
  obtain ⟨hJ', c, L, hL, hE, hM, hP, _, _⟩ := id hJ
  have hc := hL.1
  obtain ⟨n', hI⟩ := hal_inv hJ' hM hc
  have hg := hal_geo hJ' hM hc
  obtain ⟨δ, d1, d2⟩ := hI.2.2.2.2.1
  obtain ⟨KA, hKA⟩ : ∃ KA, KA = 1000 := ⟨_, rfl⟩
  refine hfa_root (A := KA + 2) (B := KA + 2) hJ ?_
  have none : ((∀ j, j < c → p1 = nI j → hm_gone tm j = 0 → hm_dim tm j ≠ 0) ∨ ∀ d, d ≤ 1 → p2 ≠ nI d) → wqX12_root (KA + 2) tm p1 p2 (fun r2 _ => (-1 : Int32) = r2) := by
    intro w
    refine hmx_root0 (hm_isThere hM.1 hc (by omega) (fun j hj ej gj => ⟨fun q => absurd q (by decide), fun _ => ?_⟩) (fun _ => ⟨fun _ => rfl, fun q => absurd rfl q⟩))
    have ej : p1 = nI j := ej
    show wqX12_dimOf (KA + 1) tm p1 _
    rw [ej]
    refine hm_dimOf (by omega) (by omega) ⟨fun _ => rfl, fun ed => ?_⟩
    refine hmx_in (n := 1) (a := p2) (by omega) (by omega) (fun d hd e => ?_) (fun _ => ⟨fun q => absurd rfl q, fun _ => rfl⟩)
    rcases w with w | w
    · exact absurd ed (w j hj ej gj)
    · exact absurd e (w d hd)
  refine hpx_root0 (hpx_isThere hE.1 hP hc (by omega) (fun k hk ek gk => ⟨fun q => absurd q (by decide), fun _ => ?_⟩) (fun no => ⟨fun _ => none (Or.inl (fun j hj ej gj => absurd gj (no j hj ej))), fun q => absurd rfl q⟩))
  have ek : p1 = nI k := ek
  subst ek
  have gk' : hm_gone tm k = 0 := Classical.byContradiction gk
  have ck : (nI k).toNatClampNeg = k := nI_clamp (by omega)
  have dk : hm_dim tm k = hm_bc (L k) - 1 := by
    unfold hm_dim hm_let
    rw [hM.2.1 k hk]
  refine ⟨vp_in_nI (n := k) (by omega) (by decide), fun v3 f3 => ?_⟩
  have f3 : v3 = hm_dim tm k := f3.trans ((congrArg (tx.2.2.1 3) ck).trans ((hE.2.2.1 k hk).trans dk.symm))
  refine ⟨fun nz => none (Or.inl (fun j hj ej _ z => ?_)), fun z3 => ⟨fun lt => none (Or.inr (fun d hd e => ?_)), fun n2 => ⟨fun le => ?_, fun nle => none (Or.inr (fun d hd e => ?_))⟩⟩⟩
  · have : j = k := (nI_eq (by omega) (by omega)).mp ej.symm
    rw [this] at z
    exact nz (f3.trans z)
  · have lt : p2 < 0 := lt
    rw [e] at lt; exact absurd lt (nI_pos (by omega))
  · have le : p2 ≤ 1 := le
    have n2 : ¬ p2 < 0 := n2
    have rng : ∃ d, d ≤ 1 ∧ p2 = nI d := by
      obtain ⟨d, hd, e⟩ := nI_of (x := p2) n2
      rw [e] at le
      exact ⟨d, (nI_leI (a := d) (b := 1) hd (by omega)).mp le, e⟩
    have d0 : hm_dim tm k = 0 := f3.symm.trans z3
    have b1 : hm_bc (hm_let tm k) = 1 := by
      have w : hm_bc (hm_let tm k) - 1 + 1 = (0 : Int32) + 1 := congrArg (· + 1) d0
      rw [Int32.sub_add_cancel] at w
      exact w.trans (by decide)
    obtain ⟨e, m, hm, hX, hM2⟩ := hrt_walk hE hM hL hP hI.2.2.2.1 hg d2 60 k hk b1 (fun lo => d1 k hk lo)
    refine hX (KA + 1) _ _ _ 0 0 (by omega) rfl rfl rfl (by omega) (by omega) ?_
    refine hmx_root0 (hm_isThere hM.1 hc (by omega) (fun j hj ej gj => ⟨fun q => absurd q (by decide), fun _ => ?_⟩) (fun no => absurd gk' (no k hk rfl)))
    have jk : j = k := (nI_eq (by omega) (by omega)).mp ej.symm
    show wqX12_dimOf (KA + 1) tm (nI k) _
    refine hm_dimOf (by omega) (by omega) ⟨fun nz => absurd d0 nz, fun _ => ?_⟩
    refine hmx_in (n := 1) (a := p2) (by omega) (by omega) (fun d hd e => ⟨fun _ => ?_, fun q => absurd q (by decide)⟩) (fun no => absurd (rng.elim (fun d w => no d w.1 w.2)) (fun q => q))
    exact hM2 (KA + 1) _ _ _ 0 (by omega) rfl rfl (by omega) rfl
  · have nle : ¬ p2 ≤ 1 := nle
    refine nle ?_
    rw [e]; exact nI_le (a := d) (b := 1) hd (by omega)
