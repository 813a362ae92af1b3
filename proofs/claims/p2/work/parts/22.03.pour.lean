/-! ===== the class: pour, exactly: a fold along HEIGHTS' order ===== -/
def hf_pn (P : Nat → Int32) (k : Nat) : Nat := (P k).toNatClampNeg
/-- what one listed SIMPLEX does -/
def hf_st (P L D : Nat → Int32) (F : Nat → Int64) (d : Nat) (k : Nat) (V : Nat → Int) : Nat → Int := if D k = nI (d + 1) then (fun c => V c + (if hf_b P F k c = true then V k * hf_sg L F c k else 0)) else if D k = nI d ∧ k < hf_pn P k then (fun c => V c - (if c = hf_pn P k then V k * hf_sg L F k (hf_pn P k) else 0)) else V
def hf_fo (P L D : Nat → Int32) (F : Nat → Int64) (d o : Nat) (g : Nat → Nat) (V : Nat → Int) : Nat → Nat → Int | 0 => V | s + 1 => hf_st P L D F d (g (o - 1 - s)) (hf_fo P L D F d o g V s)
/-- faces: lower numbers, of one DIM less, five at most -/
def h6_F (t : XT) : Prop := (∀ k x, k < 64 → hb (t.2.2.2 0 k) x = true → x < k ∧ ∃ e, e < 4 ∧ t.2.2.1 3 k = nI (e + 1) ∧ t.2.2.1 3 x = nI e) ∧ ∀ k, k < 64 → cp (hb (t.2.2.2 0 k)) 64 ≤ 5
theorem hf_pn_e {P : Nat → Int32} {k p : Nat} (hp : p < 64) (h : P k = nI p) : hf_pn P k = p := by
  unfold hf_pn; rw [h]; exact nI_clamp (by omega)
theorem hf_pn_lt {P : Nat → Int32} {k : Nat} (hp : hx_p (P k)) (h : k < hf_pn P k) : hf_pn P k < 64 ∧ P k = nI (hf_pn P k) := by
  rcases hp with z | ⟨p, p64, ep⟩
  · unfold hf_pn at h
    rw [z] at h
    have h : k < (-1 : Int32).toNatClampNeg := h
    exact absurd (show k < 0 from h) (by omega)
  · rw [hf_pn_e p64 ep]; exact ⟨p64, ep⟩
theorem hf_mul0 {x y : Int} (h : Int64.ofInt x = 0) : Int64.ofInt (x * y) = 0 := by rw [Int64.ofInt_mul, h, Int64.zero_mul]
theorem hf_pour_go {z : Int32} {m d o : Nat} {g : Nat → Nat} {V : Nat → Int} {t0 : XT} {a b : Int32} {Q : XT → Prop} (ha : a = nI (d + 1)) (hd : d < 4) (hb1 : ¬ b = 0) (hI0 : hx_inv t0 z m) (hF : h6_F t0) (hg : ∀ i, i < o → t0.2.2.1 7 i = nI (g i)) (hg6 : ∀ i, i < o → g i < 64) (ho : o ≤ 64)
    (hQ : ∀ t', hf_fr t0 t' → hf_v t' (hf_fo (t0.2.2.1 5) (t0.2.2.1 2) (t0.2.2.1 3) (t0.2.2.2 0) d o g V o) → Q t') :
    ∀ (c K : Nat) (t : XT) (li : Nat → Int32) (lj : Nat → Int64), c ≤ o → 3 * c + 100 ≤ K → hf_fr t0 t → hf_v t (hf_fo (t0.2.2.1 5) (t0.2.2.1 2) (t0.2.2.1 3) (t0.2.2.2 0) d o g V (o - c)) → li 1 = a → li 2 = b → li 3 = nI c - 1 → wpX1_pour K 1 t li lj Q := by
  intro c
  induction c with
  | zero =>
    intro K t li lj hc hK hf hv e1 e2 e3
    obtain ⟨K, rfl⟩ : ∃ K', K = K' + 1 := ⟨K - 1, by omega⟩
    show wbX1_pour_1 (wpX1_pour K) K t li lj Q
    exact ⟨fun _ => hQ t hf hv, fun x => absurd (by rw [e3]; exact (hz_neg1 (by omega)).mpr rfl) x⟩
  | succ s ih =>
    intro K t li lj hc hK hf hv e1 e2 e3
    have e3 : li 3 = nI s := e3.trans (nI_pred s)
    obtain ⟨K, rfl⟩ : ∃ K', K = K' + 3 := ⟨K - 3, by omega⟩
    obtain ⟨k, hk⟩ : ∃ k, k = g s := ⟨_, rfl⟩
    have k64 : k < 64 := by rw [hk]; exact hg6 s (by omega)
    have ek : t.2.2.1 7 s = nI k := by rw [hf.2.2.1, hk]; exact hg s (by omega)
    obtain ⟨W, hW⟩ : ∃ W, W = hf_fo (t0.2.2.1 5) (t0.2.2.1 2) (t0.2.2.1 3) (t0.2.2.2 0) d o g V (o - (s + 1)) := ⟨_, rfl⟩
    rw [← hW] at hv
    have nextW : hf_fo (t0.2.2.1 5) (t0.2.2.1 2) (t0.2.2.1 3) (t0.2.2.2 0) d o g V (o - s) = hf_st (t0.2.2.1 5) (t0.2.2.1 2) (t0.2.2.1 3) (t0.2.2.2 0) d k W := by
      rw [show o - s = (o - (s + 1)) + 1 by omega]
      show hf_st _ _ _ _ d (g (o - 1 - (o - (s + 1)))) _ = _
      rw [show o - 1 - (o - (s + 1)) = s by omega, ← hk, ← hW]
    have three : ∀ (K2 : Nat) (t' : XT) (li' : Nat → Int32), K + 1 ≤ K2 → hf_fr t0 t' → hf_v t' (hf_st (t0.2.2.1 5) (t0.2.2.1 2) (t0.2.2.1 3) (t0.2.2.2 0) d k W) → li' 1 = a → li' 2 = b → li' 3 = nI s → wpX1_pour K2 3 t' li' lj Q := by
      intro K2 t' li' h hf' hv' a1 a2 a3
      obtain ⟨K2, rfl⟩ : ∃ K', K2 = K' + 1 := ⟨K2 - 1, by omega⟩
      show wbX1_pour_3 (wpX1_pour K2) K2 t' li' lj Q
      intro v e
      exact ih K2 t' _ _ (by omega) (by omega) hf' (by rw [nextW]; exact hv') a1 a2 (by show v = _; rw [e, a3]; exact hq_dec s)
    have P5 := hI0.2.2.2.2.2.2.2.1 k k64
    have dz : ∀ x y : Int, W k = x → Int64.ofInt x = 0 → Int64.ofInt (x * y) = 0 := fun x y _ h => hf_mul0 h
    -- a value of 0 changes nothing
    have same0 : t.2.2.2 3 k = 0 → hf_v t (hf_st (t0.2.2.1 5) (t0.2.2.1 2) (t0.2.2.1 3) (t0.2.2.2 0) d k W) := by
      intro z0
      have w0 : Int64.ofInt (W k) = 0 := (hv k k64).symm.trans z0
      intro c' hc'
      rw [hv c' hc']
      unfold hf_st
      split
      · show Int64.ofInt (W c') = Int64.ofInt (W c' + _)
        rw [Int64.ofInt_add]
        split
        · rw [hf_mul0 w0, Int64.add_zero]
        · rw [show Int64.ofInt 0 = 0 from rfl, Int64.add_zero]
      · split
        · show Int64.ofInt (W c') = Int64.ofInt (W c' - _)
          rw [Int.sub_eq_add_neg, Int64.ofInt_add, Int64.ofInt_neg]
          split
          · rw [hf_mul0 w0, Int64.neg_zero, Int64.add_zero]
          · rw [show Int64.ofInt 0 = 0 from rfl, Int64.neg_zero, Int64.add_zero]
        · rfl
    have two : ∀ li' : Nat → Int32, ¬ (t.2.2.2 3 k ≠ 0 ∧ t0.2.2.1 3 k = nI (d + 1)) → li' 1 = a → li' 2 = b → li' 3 = nI s → li' 4 = nI k → wpX1_pour (K + 2) 2 t li' lj Q := by
      intro li' no a1 a2 a3 a4
      show wbX1_pour_2 (wpX1_pour (K + 1)) (K + 1) t li' lj Q
      unfold wbX1_pour_2
      rw [a4]
      refine ⟨vp_in_nI k64 (by decide), fun v10 f10 v11 f11 => ⟨fun z0 => three _ t li' (by omega) hf (same0 ?_) a1 a2 a3, fun nz => ?_⟩⟩
      · have f10 : v10 = t.2.2.2 3 k := f10.trans (congrArg (t.2.2.2 3) (nI_clamp (by omega)))
        rw [← f10]; exact (hs_cmp0 _ _).mp (f11.symm.trans z0)
      · have f10 : v10 = t.2.2.2 3 k := f10.trans (congrArg (t.2.2.2 3) (nI_clamp (by omega)))
        have vnz : t.2.2.2 3 k ≠ 0 := fun q => nz (f11.trans ((hs_cmp0 _ _).mpr (f10.trans q)))
        have nD : ¬ t0.2.2.1 3 k = nI (d + 1) := fun q => no ⟨vnz, q⟩
        refine ⟨vp_in_nI k64 (by decide), fun v13 f13 v14 f14 => ?_⟩
        have f13 : v13 = t0.2.2.1 3 k := by
          rw [f13, hf.2.2.1]; exact congrArg (t0.2.2.1 3) (nI_clamp (by omega))
        have f14 : v14 = nI d := by rw [f14, a1, ha]; exact nI_pred d
        refine ⟨fun ne => three _ t li' (by omega) hf ?_ a1 a2 a3, fun eq => ?_⟩
        · have nD2 : ¬ t0.2.2.1 3 k = nI d := fun q => ne (by rw [f13, f14, q])
          unfold hf_st
          rw [if_neg nD, if_neg (fun q => nD2 q.1)]; exact hv
        · have D2 : t0.2.2.1 3 k = nI d := by rw [← f13, ← f14]; exact eq
          rw [a2]
          refine hf_goUp hb1 k64 (by rw [hf.2.2.1]; exact P5) hv (by omega) (fun h0 => ?_) (fun p t' p64 ep kp h1 h2 => ?_)
          · refine three _ t li' (by omega) hf ?_ a1 a2 a3
            unfold hf_st
            rw [if_neg nD, if_neg (fun q => ?_)]
            · exact hv
            · obtain ⟨x1, x2⟩ := hf_pn_lt P5 q.2
              have := h0 _ x1 (by rw [hf.2.2.1]; exact x2)
              have := q.2
              omega
          · rw [hf.2.2.1] at ep
            have epn := hf_pn_e p64 ep
            refine three _ t' li' (by omega) (hf_fr_t hf h1) ?_ a1 a2 a3
            rw [hf.2.2.1, hf.2.2.2 0 (by decide)] at h2
            unfold hf_st
            rw [if_neg nD, if_pos ⟨D2, by rw [epn]; exact kp⟩, epn]; exact h2
    show wbX1_pour_1 (wpX1_pour (K + 2)) (K + 2) t li lj Q
    refine ⟨fun x => absurd (by rw [e3] at x; exact x) (nI_pos (n := s) (by omega)), fun _ => ⟨by rw [e3]; exact vp_in_nI (by omega) (by decide), fun v3 f3 => ?_⟩⟩
    have f3 : v3 = nI k := by
      rw [f3, e3]
      exact (congrArg (t.2.2.1 7) (nI_clamp (by omega))).trans ek
    subst f3
    refine ⟨vp_in_nI k64 (by decide), fun v4 f4 v5 f5 => ⟨fun z0 => ?_, fun nz => ⟨vp_in_nI k64 (by decide), fun v7 f7 => ⟨fun ne => ?_, fun eq => ?_⟩⟩⟩⟩
    · have f4 : v4 = t.2.2.2 3 k := f4.trans (congrArg (t.2.2.2 3) (nI_clamp (by omega)))
      have v0 : t.2.2.2 3 k = 0 := by rw [← f4]; exact (hs_cmp0 _ _).mp (f5.symm.trans z0)
      exact two _ (fun q => q.1 v0) e1 e2 e3 rfl
    · have f7 : v7 = t0.2.2.1 3 k := by
        rw [f7, hf.2.2.1]; exact congrArg (t0.2.2.1 3) (nI_clamp (by omega))
      exact two _ (fun q => ne (by rw [f7, e1, ha]; exact q.2)) e1 e2 e3 rfl
    · have f7 : v7 = t0.2.2.1 3 k := by
        rw [f7, hf.2.2.1]; exact congrArg (t0.2.2.1 3) (nI_clamp (by omega))
      have D1 : t0.2.2.1 3 k = nI (d + 1) := by rw [← f7, eq, e1, ha]
      rw [e2]
      refine hf_goDown (V0 := W) hb1 k64 (by rw [hf.2.2.1]; exact P5) (fun x hx => ?_) (by rw [hf.2.2.2 0 (by decide)]; exact hF.2 k k64) hv (by omega) (fun t' h1 h2 => ?_)
      · rw [hf.2.2.2 0 (by decide)] at hx
        exact (hF.1 k x k64 hx).1
      · refine three _ t' _ (by omega) (hf_fr_t hf h1) ?_ e1 e2 e3
        rw [hf.2.2.1, hf.2.2.2 0 (by decide)] at h2
        unfold hf_st
        rw [if_pos D1]; exact h2
theorem hf_pour {z : Int32} {m d o K : Nat} {g : Nat → Nat} {V : Nat → Int} {t : XT} {b : Int32} {Q : XT → Prop} (hd : d < 4) (hb1 : ¬ b = 0) (hI : hx_inv t z m) (hF : h6_F t) (eo : t.1 6 = nI o) (hg : ∀ i, i < o → t.2.2.1 7 i = nI (g i)) (hg6 : ∀ i, i < o → g i < 64) (ho : o ≤ 64) (hv : hf_v t V) (hK : 400 ≤ K)
    (hQ : ∀ t', hf_fr t t' → hf_v t' (hf_fo (t.2.2.1 5) (t.2.2.1 2) (t.2.2.1 3) (t.2.2.2 0) d o g V o) → Q t') : wqX1_pour K t (nI (d + 1)) b Q := by
  obtain ⟨K, rfl⟩ : ∃ K', K = K' + 1 := ⟨K - 1, by omega⟩
  show wbX1_pour_0 (wpX1_pour K) K t (uI (uI (fun _ => 0) 1 (nI (d + 1))) 2 b) (fun _ => 0) Q
  intro v1 e1
  exact hf_pour_go (t0 := t) rfl hd hb1 hI hF hg hg6 ho hQ o K t _ _ (Nat.le_refl o) (by omega) (hf_fr_r t) (by rw [Nat.sub_self]; exact hv) rfl rfl (by show v1 = _; rw [e1, eo])
theorem hf_start {z : Int32} {m k K : Nat} {t : XT} {Q : XT → Prop} (hI : hx_inv t z m) (hF : t.1 7 = t.1 5 → ht_topo t) (hk : k < 64) (hK : 301 ≤ K) (hQ : ∀ t1 t', hx_inv t1 z m → ht_fr t t1 → t1.1 7 = t1.1 5 → ht_topo t1 → hf_fr t1 t' → hf_v t' (fun c => if c = k then 1 else 0) → Q t') : wqX1_start K t (nI k) Q := by
  obtain ⟨K, rfl⟩ : ∃ K', K = K' + 1 := ⟨K - 1, by omega⟩
  have ck : (nI k).toNatClampNeg = k := nI_clamp (by omega)
  show wbX1_start_0 (wpX1_start K) K t (uI (fun _ => 0) 1 (nI k)) (fun _ => 0) Q
  refine ht_measure hI hF (by omega) (fun t1 h1 h2 h3 h4 t2 e2 => ⟨vp_in_nI hk (by decide), fun t3 e3 => ?_⟩)
  have e3 : t3 = sB t2 3 (vp_updL (t2.2.2.2 3) k 1) := by
    rw [e3]; exact congrArg (fun n => sB t2 3 (vp_updL (t2.2.2.2 3) n 1)) ck
  refine hQ t1 t3 h1 h2 h3 h4 (by rw [e3, e2]; exact hf_fr_t (hf_fr_B t1 _) (hf_fr_B _ _)) (fun c hc => ?_)
  rw [e3, hf_B3, hf_in]
  show (if c = k then (1 : Int64) else t2.2.2.2 3 c) = Int64.ofInt (if c = k then 1 else 0)
  by_cases q : c = k
  · rw [if_pos q, if_pos q]; rfl
  · rw [if_neg q, if_neg q, e2, hf_B3]; rfl
