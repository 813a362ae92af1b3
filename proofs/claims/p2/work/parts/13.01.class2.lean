/-! ===== the class, pure: what can be UNDONE, single PAIRS, lists, what is KEPT ===== -/
theorem hz_64 : ∀ n, n < 16 → nI n * (64 : Int32) = nI (64 * n) := by decide +kernel
theorem hz_r16 : ∀ n, n < 40 → nI n - nI n / 16 * 16 = nI (n % 16) := by decide +kernel
theorem hx_out {t : XT} {z : Int32} {m : Nat} {Q : Int32 → XT → Prop} (hI : hx_inv t z m) (hQ : ∀ r t', hx_inv t' z m → Q r t') : ∀ r, Q r t := fun r => hQ r t hI
theorem hz_save {t : XT} {z : Int32} {m K : Nat} {Q : XT → Prop} (hI : hx_inv t z m) (hK : 1 ≤ K) (h : ∀ t', hx_inv t' z m → Q t') : wqX3_save_c4 K t Q := by
  obtain ⟨K, rfl⟩ : ∃ K', K = K' + 1 := ⟨K - 1, by omega⟩
  obtain ⟨a1, a2, a3, a4, ⟨n, hn, en⟩, a6, a7, a8, a9, a10⟩ := hI
  show wbX3_save_c4_0 (wpX3_save_c4 K) K t (fun _ => 0) (fun _ => 0) Q
  intro v1 e1
  have e1 : v1 = nI (64 * n) := by rw [e1, en]; exact hz_64 n hn
  subst e1
  have c1 : (nI (64 * n)).toNatClampNeg = 64 * n := nI_clamp (by omega)
  have c64 : (64 : Int32).toNatClampNeg = 64 := by decide
  have c0 : (0 : Int32).toNatClampNeg = 0 := by decide
  refine ⟨by decide, (show ¬ nI (64 * n) < nI 0 from nI_nlt (Nat.zero_le _) (by omega)), by decide, by decide, by rw [c1, c64]; omega, fun t2 e2 => ?_⟩
  have i2 : t2.1 9 = nI n := by rw [e2]; exact en
  refine ⟨by rw [i2]; exact vp_in_nI hn (by decide), fun t3 e3 v4 e4 => ⟨by decide, fun v5 e5 t6 e6 v7 _ v8 _ t9 e9 => ?_⟩⟩
  have e4 : v4 = nI (n + 1) := by rw [e4, e3]; exact (congrArg (· + 1) i2).trans (nI_1 n)
  have e5 : v5 = nI ((n + 1) % 16) := by rw [e5, e4]; exact hz_r16 (n + 1) (by omega)
  refine h t9 ?_
  subst e9 e6 e3 e2
  refine ⟨a1, a2, a3, a4, ⟨(n + 1) % 16, by omega, e5⟩, a6, a7, a8, a9, fun i hi => ?_, a10.2⟩
  show hx_p (va_cpy (t.2.2.1 5) (t.2.2.1 9) (0 : Int32).toNatClampNeg (nI (64 * n)).toNatClampNeg (64 : Int32).toNatClampNeg i)
  rw [c0, c1, c64]
  by_cases x : 64 * n ≤ i ∧ i < 64 * n + 64
  · have e : va_cpy (t.2.2.1 5) (t.2.2.1 9) 0 (64 * n) 64 i = t.2.2.1 5 (0 + (i - 64 * n)) := if_pos x
    rw [e]
    exact a8 _ (by omega)
  · have e : va_cpy (t.2.2.1 5) (t.2.2.1 9) 0 (64 * n) 64 i = t.2.2.1 9 i := if_neg x
    rw [e]
    exact a10.1 i hi
theorem hz_take_go {z : Int32} {m n : Nat} {lj : Nat → Int64} {Q : XT → Prop} (hn : n < 16) (h : ∀ t', hx_inv t' z m → Q t') :
    ∀ (d i K : Nat) (t : XT) (li : Nat → Int32), i + d = 64 → 2 * d + 10 ≤ K → hx_inv t z m → li 2 = nI (64 * n) → li 5 = nI i → wpX6_takeBack_c27 K 1 t li lj Q := by
  intro d
  induction d with
  | zero =>
    intro i K t li hd hK hI e2 e5
    obtain ⟨K, rfl⟩ : ∃ K', K = K' + 1 := ⟨K - 1, by omega⟩
    obtain rfl : i = 64 := by omega
    show wbX6_takeBack_c27_1 (wpX6_takeBack_c27 K) K t li lj Q
    exact ⟨fun _ => h t hI, fun x => absurd (show nI 64 ≤ li 5 by rw [e5]; exact nI_le (by omega) (by omega)) x⟩
  | succ d ih =>
    intro i K t li hd hK hI e2 e5
    obtain ⟨K, rfl⟩ : ∃ K', K = K' + 2 := ⟨K - 2, by omega⟩
    have nx : ∀ (t' : XT) (li' : Nat → Int32), hx_inv t' z m → li' 2 = nI (64 * n) → li' 5 = nI i → wpX6_takeBack_c27 (K + 1) 2 t' li' lj Q := by
      intro t' li' hI' a2 a5
      show wbX6_takeBack_c27_2 (wpX6_takeBack_c27 K) K t' li' lj Q
      intro v e
      exact ih (i + 1) K t' _ (by omega) (by omega) hI' a2 (by show v = _; rw [e, a5]; exact hs_inc i)
    show wbX6_takeBack_c27_1 (wpX6_takeBack_c27 (K + 1)) (K + 1) t li lj Q
    unfold wbX6_takeBack_c27_1
    rw [e2, e5]
    refine ⟨fun _ => h t hI, fun _ v3 _ => ⟨fun _ => h t hI, fun _ v5 f5 => ?_⟩⟩
    have f5 : v5 = nI (64 * n + i) := f5.trans (nI_add _ _)
    subst f5
    refine ⟨vp_in_nI (by omega) (by decide), fun v6 f6 => ⟨fun _ => nx t _ hI e2 e5, fun y => ?_⟩⟩
    have f6 : v6 = t.2.2.1 9 (64 * n + i) := f6.trans (congrArg (t.2.2.1 9) (nI_clamp (by omega)))
    have hp : hx_p v6 := by rw [f6]; exact hI.2.2.2.2.2.2.2.2.2.1 _ (by omega)
    obtain ⟨p, hp, ep⟩ := hx_p_in hp (fun q => y (by rw [q]; refine Int32.le_iff_toInt_le.mpr ?_; rw [nI_toInt (by omega)]; show (-1 : Int) ≤ _; omega))
    rw [ep]
    exact hz_unite hI (by omega) hp (by omega) (fun t' h' => nx t' _ h' e2 e5)
theorem hz_takeBack {t : XT} {z : Int32} {m n K : Nat} {a : Int64} {Q : XT → Prop} (hI : hx_inv t z m) (hn : n < 16) (hK : 200 ≤ K) (h : ∀ t', hx_inv t' z m → Q t') : wqX6_takeBack_c27 K t (nI (64 * n)) a Q := by
  obtain ⟨K, rfl⟩ : ∃ K', K = K' + 1 := ⟨K - 1, by omega⟩
  show wbX6_takeBack_c27_0 (wpX6_takeBack_c27 K) K t (uI (fun _ => 0) 2 (nI (64 * n))) (uI (fun _ => 0) 3 a) Q
  exact hz_restart hI (by omega) (fun t1 h1 => hz_take_go hn h 64 0 K t1 _ (by omega) (by omega) h1 rfl rfl)
theorem hz_restore {t : XT} {z : Int32} {m K : Nat} {Q : XT → Prop} (hI : hx_inv t z m) (hK : 210 ≤ K) (h : ∀ t', hx_inv t' z m → Q t') : wqX3_restore_c4 K t Q := by
  obtain ⟨K, rfl⟩ : ∃ K', K = K' + 1 := ⟨K - 1, by omega⟩
  have hI' := hI
  obtain ⟨a1, a2, a3, a4, ⟨n, hn, en⟩, a6, a7, a8, a9, a10⟩ := hI'
  show wbX3_restore_c4_0 (wpX3_restore_c4 K) K t (fun _ => 0) (fun _ => 0) Q
  refine ⟨fun _ v2 e2 v3 e3 => ⟨by decide, fun v4 e4 t5 e5 v6 _ t7 e7 v8 e8 => ?_⟩, fun _ => h t hI⟩
  have e3 : v3 = nI (n + 15) := by
    rw [e3, e2, en]
    show nI n + nI 16 - 1 = _
    rw [nI_add]; exact nI_pred (n + 15)
  have e4 : v4 = nI ((n + 15) % 16) := by rw [e4, e3]; exact hz_r16 (n + 15) (by omega)
  have i9 : t7.1 9 = nI ((n + 15) % 16) := by rw [e7, e5]; exact e4
  have e8 : v8 = nI (64 * ((n + 15) % 16)) := by rw [e8, i9]; exact hz_64 _ (by omega)
  subst e8
  have h7 : hx_inv t7 z m := by
    refine ⟨by rw [e7, e5]; exact a1, by rw [e7, e5]; exact a2, a3, by rw [e7, e5]; exact a4, ⟨_, by omega, i9⟩, by rw [e7, e5]; exact a6, by rw [e7, e5]; exact a7, by rw [e7, e5]; exact a8, by rw [e7, e5]; exact a9, by rw [e7, e5]; exact a10⟩
  refine ⟨by rw [i9]; exact vp_in_nI (by omega) (by decide), fun v9 _ => ?_⟩
  exact hz_takeBack h7 (by omega) (by omega) h
theorem hz_undo {t : XT} {z : Int32} {m K : Nat} {Q : Int32 → XT → Prop} (hI : hx_inv t z m) (hK : 220 ≤ K) (hQ : ∀ r t', hx_inv t' z m → Q r t') : wqX11_undo K t Q := by
  obtain ⟨K, rfl⟩ : ∃ K', K = K' + 1 := ⟨K - 1, by omega⟩
  show wbX11_undo_0 (wpX11_undo K) K t (fun _ => 0) (fun _ => 0) Q
  exact ⟨fun _ => hz_restore hI (by omega) (fun t' h' => hQ _ t' h'), fun _ => hQ _ t hI⟩
theorem hz_pair {t : XT} {z : Int32} {m K : Nat} {a b : Int32} {Q : Int32 → XT → Prop} (hI : hx_inv t z m) (hK : 220 ≤ K) (hQ : ∀ r t', hx_inv t' z m → Q r t') : wqX11_pair K t a b Q := by
  obtain ⟨K, rfl⟩ : ∃ K', K = K' + 2 := ⟨K - 2, by omega⟩
  have m60 := hI.2.2.1
  have out : wpX11_pair (K + 1) 1 t (uI (uI (fun _ => 0) 1 a) 2 b) (fun _ => 0) Q := hQ _ t hI
  have out2 : wpX11_pair (K + 1) 2 t (uI (uI (fun _ => 0) 1 a) 2 b) (fun _ => 0) Q := hQ _ t hI
  show wbX11_pair_0 (wpX11_pair (K + 1)) (K + 1) t (uI (uI (fun _ => 0) 1 a) 2 b) (fun _ => 0) Q
  refine hz_isThere hI (by omega) (fun f hf ea => ⟨fun x => absurd x (by decide), fun _ => ?_⟩) ⟨fun _ => out, fun x => absurd rfl x⟩
  refine hz_isThere hI (by omega) (fun s hs eb => ⟨fun x => absurd x (by decide), fun _ => ?_⟩) ⟨fun _ => out, fun x => absurd rfl x⟩
  have ea : a = nI f := ea
  have eb : b = nI s := eb
  subst ea
  subst eb
  refine ⟨vp_in_nI (n := s) (by omega) (by decide), fun v5 _ => hz_isIn (by omega) ⟨fun _ => ?_, fun x => absurd x (by decide)⟩ ⟨fun x => absurd rfl x, fun _ => out⟩⟩
  refine hz_isCritical (by omega) ⟨fun x => absurd x (by decide), fun _ => ?_⟩ ⟨fun _ => out2, fun x => absurd rfl x⟩
  refine hz_isCritical (by omega) ⟨fun _ => ?_, fun x => absurd x (by decide)⟩ ⟨fun x => absurd rfl x, fun _ => out2⟩
  refine hz_staysAcyclic hI (by omega) (by omega) (fun r => ⟨fun _ => ?_, fun _ => hQ _ t hI⟩)
  refine hz_save hI (by omega) (fun t1 h1 => hz_unite h1 (by omega) (by omega) (by omega) (fun t2 h2 => hz_criticalOnes (by omega) (fun r => hQ r t2 h2)))
theorem hz_part {t : XT} {z : Int32} {m K : Nat} {a : Int32} {Q : Int32 → XT → Prop} (hI : hx_inv t z m) (hK : 20 ≤ K) (hQ : ∀ r t', hx_inv t' z m → Q r t') : wqX11_part K t a Q := by
  obtain ⟨K, rfl⟩ : ∃ K', K = K' + 2 := ⟨K - 2, by omega⟩
  have m60 := hI.2.2.1
  have out : wpX11_part (K + 1) 1 t (uI (fun _ => 0) 1 a) (fun _ => 0) Q := hQ _ t hI
  show wbX11_part_0 (wpX11_part (K + 1)) (K + 1) t (uI (fun _ => 0) 1 a) (fun _ => 0) Q
  refine hz_isThere hI (by omega) (fun f hf ea => ⟨fun x => absurd x (by decide), fun _ => ?_⟩) ⟨fun _ => out, fun x => absurd rfl x⟩
  have ea : a = nI f := ea
  subst ea
  refine ⟨vp_in_nI (n := f) (by omega) (by decide), fun v3 _ => ⟨fun _ => ?_, fun _ => out⟩⟩
  exact hz_save hI (by omega) (fun t1 h1 => hz_divide h1 (by omega) (by omega) (fun t2 h2 => hz_criticalOnes (by omega) (fun r => hQ r t2 h2)))
theorem hz_number {t : XT} {K : Nat} {a : Int32} {Q : Int32 → XT → Prop} (hK : 2 ≤ K) (h : ∀ r, Q r t) : wqX11_number K t a Q := by
  obtain ⟨K, rfl⟩ : ∃ K', K = K' + 2 := ⟨K - 2, by omega⟩
  show wbX11_number_0 (wpX11_number (K + 1)) (K + 1) t (uI (fun _ => 0) 1 a) (fun _ => 0) Q
  refine ⟨fun _ => h _, fun x => ⟨fun y => ?_, fun _ => h _⟩⟩
  have x : ¬ a < 0 := x
  have y : a < nI 256 := y
  have y := Int32.lt_iff_toInt_lt.mp y
  rw [nI_toInt (by omega)] at y
  obtain ⟨k, _, k1, e⟩ := hq_between (a := a) (lo := 0) (hi := 255) (by omega) (by omega) ⟨Int32.not_lt.mp x, by
    refine Int32.le_iff_toInt_le.mpr ?_
    rw [nI_toInt (by omega)]; omega⟩
  subst e
  exact ⟨vp_in_nI (n := k) (by omega) (by decide), fun v _ => h v⟩
theorem hz_signOf {t : XT} {f s K : Nat} {Q : Int32 → XT → Prop} (hf : f < 64) (hs : s < 64) (hK : 2 ≤ K) (h : ∀ r, Q r t) : wqX9_signOf K t (nI f) (nI s) Q := by
  obtain ⟨K, rfl⟩ : ∃ K', K = K' + 1 := ⟨K - 1, by omega⟩
  have i := vp_in_nI (n := s) (N := 64) hs (by decide)
  have j := vp_in_nI (n := f) (N := 64) hf (by decide)
  show wbX9_signOf_0 (wpX9_signOf K) K t (uI (uI (fun _ => 0) 1 (nI f)) 2 (nI s)) (fun _ => 0) Q
  refine ⟨i, fun _ _ => hz_isIn (by omega) ⟨fun _ => ⟨i, fun _ _ => ⟨j, fun _ _ _ _ _ _ => ⟨i, fun _ _ _ _ _ _ => hm_bitCount (by omega) (fun _ _ => ⟨fun _ => h _, fun _ => h _⟩)⟩⟩⟩, fun _ => h _⟩ ⟨fun x => absurd rfl x, fun _ => h _⟩⟩
theorem hz_sign {t : XT} {z : Int32} {m K : Nat} {a b : Int32} {Q : Int32 → XT → Prop} (hI : hx_inv t z m) (hK : 10 ≤ K) (h : ∀ r, Q r t) : wqX11_sign K t a b Q := by
  obtain ⟨K, rfl⟩ : ∃ K', K = K' + 2 := ⟨K - 2, by omega⟩
  have m60 := hI.2.2.1
  have out : wpX11_sign (K + 1) 1 t (uI (uI (fun _ => 0) 1 a) 2 b) (fun _ => 0) Q := h _
  show wbX11_sign_0 (wpX11_sign (K + 1)) (K + 1) t (uI (uI (fun _ => 0) 1 a) 2 b) (fun _ => 0) Q
  refine hz_has hI (by omega) (fun f hf ea => ⟨fun x => absurd x (by decide), fun _ => ?_⟩) ⟨fun _ => out, fun x => absurd rfl x⟩
  refine hz_has hI (by omega) (fun s hs eb => ⟨fun _ => ?_, fun x => absurd x (by decide)⟩) ⟨fun x => absurd rfl x, fun _ => out⟩
  have ea : a = nI f := ea
  have eb : b = nI s := eb
  subst ea
  subst eb
  exact hz_signOf (by omega) (by omega) (by omega) h
theorem hz_isFree {t : XT} {k K : Nat} {Q : Int32 → XT → Prop} (hk : k < 64) (hK : 4 ≤ K) (h : ∀ r, Q r t) : wqX11_isFree K t (nI k) Q := by
  obtain ⟨K, rfl⟩ : ∃ K', K = K' + 1 := ⟨K - 1, by omega⟩
  show wbX11_isFree_0 (wpX11_isFree K) K t (uI (fun _ => 0) 1 (nI k)) (fun _ => 0) Q
  exact ⟨vp_in_nI hk (by decide), fun _ _ _ _ => hz_bc64 (by omega) (fun j _ => ⟨fun _ => hz_lowest (by omega) (fun i hi => ⟨vp_in_nI hi (by decide), fun _ _ _ _ _ _ => ⟨fun _ => h _, fun _ => h _⟩⟩), fun _ => h _⟩)⟩
theorem hz_collapse {t : XT} {z : Int32} {m K : Nat} {a : Int32} {Q : Int32 → XT → Prop} (hI : hx_inv t z m) (hK : 20 ≤ K) (hQ : ∀ r t', hx_inv t' z m → Q r t') : wqX11_collapse K t a Q := by
  obtain ⟨K, rfl⟩ : ∃ K', K = K' + 1 := ⟨K - 1, by omega⟩
  have m60 := hI.2.2.1
  show wbX11_collapse_0 (wpX11_collapse K) K t (uI (fun _ => 0) 1 a) (fun _ => 0) Q
  refine hz_isThere hI (by omega) (fun f hf ea => ⟨fun _ => ?_, fun x => absurd x (by decide)⟩) ⟨fun x => absurd rfl x, fun _ => hQ _ t hI⟩
  have ea : a = nI f := ea
  subst ea
  refine hz_isFree (by omega) (by omega) (fun r => ⟨fun _ => ?_, fun _ => hQ _ t hI⟩)
  refine hz_save hI (by omega) (fun t1 h1 => ⟨vp_in_nI (n := f) (by omega) (by decide), fun v6 _ v7 _ => hz_lowest (by omega) (fun j hj => ?_)⟩)
  exact hz_drop h1 (by omega) (by omega) (fun t2 h2 => hz_drop h2 hj (by omega) (fun t3 h3 => hz_bc64 (by omega) (fun _ _ => hQ _ t3 h3)))
theorem hz_critical {t : XT} {K : Nat} {a b : Int32} {Q : Int32 → XT → Prop} (hK : 220 ≤ K) (h : ∀ r, Q r t) : wqX11_critical K t a b Q := by
  obtain ⟨K, rfl⟩ : ∃ K', K = K' + 2 := ⟨K - 2, by omega⟩
  have out : wpX11_critical (K + 1) 1 t (uI (uI (fun _ => 0) 1 a) 2 b) (fun _ => 0) Q := h _
  show wbX11_critical_0 (wpX11_critical (K + 1)) (K + 1) t (uI (uI (fun _ => 0) 1 a) 2 b) (fun _ => 0) Q
  refine hz_isDim (by omega) (fun d hd ea => ⟨fun x => absurd x (by decide), fun _ => ⟨fun _ => hz_unpaired (by omega) (fun v => ?_), fun _ => out⟩⟩) ⟨fun _ => out, fun x => absurd rfl x⟩
  have ea : a = nI d := ea
  subst ea
  exact ⟨vp_in_nI (n := d) hd (by decide), fun _ _ _ _ => hz_listed (by omega) h⟩
theorem hz_free_go {t : XT} {z : Int32} {m : Nat} {Q : Int32 → XT → Prop} (hI : hx_inv t z m) (h : ∀ r, Q r t) :
    ∀ (d i K : Nat) (li : Nat → Int32) (lj : Nat → Int64), i + d = m → 2 * d + 250 ≤ K → li 4 = nI i → wpX11_free K 1 t li lj Q := by
  have m60 := hI.2.2.1
  intro d
  induction d with
  | zero =>
    intro i K li lj hd hK e4
    obtain ⟨K, rfl⟩ : ∃ K', K = K' + 1 := ⟨K - 1, by omega⟩
    show wbX11_free_1 (wpX11_free K) K t li lj Q
    exact ⟨fun _ => hz_listed (by omega) h, fun x => absurd (by rw [hI.2.1, e4]; exact nI_le (by omega) (by omega)) x⟩
  | succ d ih =>
    intro i K li lj hd hK e4
    obtain ⟨K, rfl⟩ : ∃ K', K = K' + 2 := ⟨K - 2, by omega⟩
    have nx : ∀ lj' : Nat → Int64, wpX11_free (K + 1) 2 t li lj' Q := by
      intro lj'
      show wbX11_free_2 (wpX11_free K) K t li lj' Q
      intro v e
      exact ih (i + 1) K _ _ (by omega) (by omega) (by show v = _; rw [e, e4]; exact hs_inc i)
    show wbX11_free_1 (wpX11_free (K + 1)) (K + 1) t li lj Q
    refine ⟨fun _ => hz_listed (by omega) h, fun _ => ?_⟩
    rw [e4]
    refine hz_isThere hI (by omega) (fun _ _ _ => ⟨fun x => absurd x (by decide), fun _ => ?_⟩) ⟨fun _ => nx _, fun x => absurd rfl x⟩
    exact hz_isFree (by omega) (by omega) (fun r => ⟨fun _ => nx _, fun _ => hz_bit (by omega) (fun _ _ _ => nx _)⟩)
theorem hz_freeCall {t : XT} {z : Int32} {m K : Nat} {a : Int32} {Q : Int32 → XT → Prop} (hI : hx_inv t z m) (hK : 400 ≤ K) (h : ∀ r, Q r t) : wqX11_free K t a Q := by
  obtain ⟨K, rfl⟩ : ∃ K', K = K' + 1 := ⟨K - 1, by omega⟩
  have m60 := hI.2.2.1
  show wbX11_free_0 (wpX11_free K) K t (uI (fun _ => 0) 1 a) (fun _ => 0) Q
  exact ⟨fun _ => hz_free_go hI h m 0 K _ _ (by omega) (by omega) rfl, fun _ => h _⟩
theorem hz_facet_go {t : XT} {z : Int32} {m : Nat} {Q : Int32 → XT → Prop} (hI : hx_inv t z m) (h : ∀ r, Q r t) :
    ∀ (d i K : Nat) (li : Nat → Int32) (lj : Nat → Int64), i + d = m → 2 * d + 250 ≤ K → li 4 = nI i → wpX11_facet K 1 t li lj Q := by
  have m60 := hI.2.2.1
  intro d
  induction d with
  | zero =>
    intro i K li lj hd hK e4
    obtain ⟨K, rfl⟩ : ∃ K', K = K' + 1 := ⟨K - 1, by omega⟩
    show wbX11_facet_1 (wpX11_facet K) K t li lj Q
    exact ⟨fun _ => hz_listed (by omega) h, fun x => absurd (by rw [hI.2.1, e4]; exact nI_le (by omega) (by omega)) x⟩
  | succ d ih =>
    intro i K li lj hd hK e4
    obtain ⟨K, rfl⟩ : ∃ K', K = K' + 2 := ⟨K - 2, by omega⟩
    have nx : ∀ lj' : Nat → Int64, wpX11_facet (K + 1) 2 t li lj' Q := by
      intro lj'
      show wbX11_facet_2 (wpX11_facet K) K t li lj' Q
      intro v e
      exact ih (i + 1) K _ _ (by omega) (by omega) (by show v = _; rw [e, e4]; exact hs_inc i)
    show wbX11_facet_1 (wpX11_facet (K + 1)) (K + 1) t li lj Q
    refine ⟨fun _ => hz_listed (by omega) h, fun _ => ?_⟩
    rw [e4]
    refine hz_isThere hI (by omega) (fun _ _ _ => ⟨fun x => absurd x (by decide), fun _ => ?_⟩) ⟨fun _ => nx _, fun x => absurd rfl x⟩
    exact ⟨vp_in_nI (by omega) (by decide), fun _ _ _ _ _ _ => ⟨fun _ => nx _, fun _ => hz_bit (by omega) (fun _ _ _ => nx _)⟩⟩
theorem hz_facet {t : XT} {z : Int32} {m K : Nat} {a : Int32} {Q : Int32 → XT → Prop} (hI : hx_inv t z m) (hK : 400 ≤ K) (h : ∀ r, Q r t) : wqX11_facet K t a Q := by
  obtain ⟨K, rfl⟩ : ∃ K', K = K' + 1 := ⟨K - 1, by omega⟩
  have m60 := hI.2.2.1
  show wbX11_facet_0 (wpX11_facet K) K t (uI (fun _ => 0) 1 a) (fun _ => 0) Q
  exact ⟨fun _ => hz_facet_go hI h m 0 K _ _ (by omega) (by omega) rfl, fun _ => h _⟩
theorem hz_store {t : XT} {z : Int32} {m k K : Nat} {Q : XT → Prop} (hI : hx_inv t z m) (hk : k < 3) (hK : 2 ≤ K) (h : ∀ t', hx_inv t' z m → Q t') : wqX4_store_c4 K t (nI k) Q := by
  obtain ⟨K, rfl⟩ : ∃ K', K = K' + 1 := ⟨K - 1, by omega⟩
  show wbX4_store_c4_0 (wpX4_store_c4 K) K t (uI (fun _ => 0) 1 (nI k)) (fun _ => 0) Q
  intro v1 e1
  have e1 : v1 = nI (64 * k) := e1.trans (hz_64 k (by omega))
  subst e1
  have c1 : (nI (64 * k)).toNatClampNeg = 64 * k := nI_clamp (by omega)
  have c64 : (64 : Int32).toNatClampNeg = 64 := by decide
  refine ⟨by decide, (show ¬ nI (64 * k) < nI 0 from nI_nlt (Nat.zero_le _) (by omega)), by decide, by decide, by rw [c1, c64]; omega, fun t2 e2 => hz_bit (by omega) (fun _ v4 _ t5 e5 => h t5 ?_)⟩
  subst e5 e2
  exact hx_frame hI rfl rfl rfl rfl rfl rfl hI.2.2.2.2.2.2.2.1 rfl rfl
theorem hz_lt3 {a : Int32} (x : ¬ a < 0) (y : ¬ (3 : Int32) ≤ a) : ∃ k, k < 3 ∧ a = nI k := by
  have y : ¬ nI 3 ≤ a := y
  have y := Int32.lt_iff_toInt_lt.mp (Int32.not_le.mp y)
  rw [nI_toInt (by omega)] at y
  obtain ⟨k, _, k1, e⟩ := hq_between (a := a) (lo := 0) (hi := 2) (by omega) (by omega) ⟨Int32.not_lt.mp x, by
    refine Int32.le_iff_toInt_le.mpr ?_
    rw [nI_toInt (by omega)]; omega⟩
  exact ⟨k, by omega, e⟩
theorem hz_keep {t : XT} {z : Int32} {m K : Nat} {a : Int32} {Q : Int32 → XT → Prop} (hI : hx_inv t z m) (hK : 10 ≤ K) (hQ : ∀ r t', hx_inv t' z m → Q r t') : wqX11_keep K t a Q := by
  obtain ⟨K, rfl⟩ : ∃ K', K = K' + 2 := ⟨K - 2, by omega⟩
  have out : wpX11_keep (K + 1) 1 t (uI (fun _ => 0) 1 a) (fun _ => 0) Q := hQ _ t hI
  show wbX11_keep_0 (wpX11_keep (K + 1)) (K + 1) t (uI (fun _ => 0) 1 a) (fun _ => 0) Q
  refine ⟨fun _ => out, fun x => ⟨fun _ => out, fun y => ⟨fun _ => ?_, fun _ => out⟩⟩⟩
  obtain ⟨k, hk, e⟩ := hz_lt3 (a := a) x y
  subst e
  exact hz_store hI hk (by omega) (fun t1 h1 => hz_howMany (by omega) (fun r => hQ r t1 h1))
theorem hz_shared_go {t : XT} {k : Nat} {lj : Nat → Int64} {Q : Int32 → XT → Prop} (hk : k < 3) (h : ∀ r, Q r t) :
    ∀ (d i K : Nat) (li : Nat → Int32), i + d = 64 → 2 * d + 2 ≤ K → li 1 = nI k → li 4 = nI i → wpX4_shared_c4 K 1 t li lj Q := by
  intro d
  induction d with
  | zero =>
    intro i K li hd hK e1 e4
    obtain ⟨K, rfl⟩ : ∃ K', K = K' + 1 := ⟨K - 1, by omega⟩
    obtain rfl : i = 64 := by omega
    show wbX4_shared_c4_1 (wpX4_shared_c4 K) K t li lj Q
    exact ⟨fun _ => h _, fun x => absurd (show nI 64 ≤ li 4 by rw [e4]; exact nI_le (by omega) (by omega)) x⟩
  | succ d ih =>
    intro i K li hd hK e1 e4
    obtain ⟨K, rfl⟩ : ∃ K', K = K' + 2 := ⟨K - 2, by omega⟩
    have nx : ∀ li' : Nat → Int32, li' 1 = nI k → li' 4 = nI i → wpX4_shared_c4 (K + 1) 2 t li' lj Q := by
      intro li' a1 a4
      show wbX4_shared_c4_2 (wpX4_shared_c4 K) K t li' lj Q
      intro v e
      exact ih (i + 1) K _ (by omega) (by omega) a1 (by show v = _; rw [e, a4]; exact hs_inc i)
    show wbX4_shared_c4_1 (wpX4_shared_c4 (K + 1)) (K + 1) t li lj Q
    unfold wbX4_shared_c4_1
    rw [e1, e4]
    refine ⟨fun _ => h _, fun _ => ⟨vp_in_nI (by omega) (by decide), fun v2 _ => ⟨fun _ => nx _ e1 e4, fun _ => ⟨vp_in_nI (by omega) (by decide), fun v4 _ v5 f5 v6 f6 => ?_⟩⟩⟩⟩
    have f6 : v6 = nI (64 * k + i) := by rw [f6, f5, hz_64 k (by omega)]; exact nI_add _ _
    rw [f6]
    exact ⟨vp_in_nI (by omega) (by decide), fun v7 _ => ⟨fun _ => nx _ e1 e4, fun _ v9 _ => nx _ e1 e4⟩⟩
theorem hz_same {t : XT} {K : Nat} {a : Int32} {Q : Int32 → XT → Prop} (hK : 200 ≤ K) (h : ∀ r, Q r t) : wqX11_same K t a Q := by
  obtain ⟨K, rfl⟩ : ∃ K', K = K' + 2 := ⟨K - 2, by omega⟩
  have out : wpX11_same (K + 1) 1 t (uI (fun _ => 0) 1 a) (fun _ => 0) Q := h _
  show wbX11_same_0 (wpX11_same (K + 1)) (K + 1) t (uI (fun _ => 0) 1 a) (fun _ => 0) Q
  refine ⟨fun _ => out, fun x => ⟨fun y => hz_isIn (by omega) ⟨fun _ => ?_, fun z => absurd z (by decide)⟩ ⟨fun z => absurd rfl z, fun _ => h _⟩, fun _ => out⟩⟩
  obtain ⟨k, hk, e⟩ := hz_lt3 (a := a) x (Int32.not_le.mpr y)
  subst e
  obtain ⟨K, rfl⟩ : ∃ K', K = K' + 1 := ⟨K - 1, by omega⟩
  show wbX4_shared_c4_0 (wpX4_shared_c4 (K + 1)) (K + 1) t (uI (fun _ => 0) 1 (nI k)) (fun _ => 0) Q
  exact hz_shared_go hk h 64 0 (K + 1) _ (by omega) (by omega) rfl rfl
