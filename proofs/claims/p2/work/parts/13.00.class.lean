/-! ===== the class, pure: ranges that its state keeps; leaves; PAIRS and what can be UNDONE ===== -/
def hx_p (v : Int32) : Prop := v = -1 ∨ ∃ p, p < 64 ∧ v = nI p
/-- rows and columns of the table that was filled last -/
def hx_M (t : XT) : Prop := ∃ a b, a < 64 ∧ b < 64 ∧ a * b ≤ 900 ∧ t.1 10 = nI a ∧ t.1 11 = nI b
/-- z: bytes of the TAPE, m: SIMPLICES -/
def hx_inv (t : XT) (z : Int32) (m : Nat) : Prop := t.1 1 = z ∧ t.1 4 = nI m ∧ m ≤ 60 ∧ (∃ o, o ≤ 64 ∧ t.1 6 = nI o) ∧ (∃ n, n < 16 ∧ t.1 9 = nI n) ∧ (∀ k, k < 64 → ∃ d, d < 5 ∧ t.2.2.1 3 k = nI d) ∧ (∀ a, a < 256 → hx_p (t.2.2.1 4 a)) ∧ (∀ k, k < 64 → hx_p (t.2.2.1 5 k)) ∧ (∀ i, i < 64 → ∃ k, k < 64 ∧ t.2.2.1 7 i = nI k) ∧ (∀ i, i < 1024 → hx_p (t.2.2.1 9 i)) ∧ hx_M t
theorem hx_frame {t t' : XT} {z : Int32} {m : Nat} (hI : hx_inv t z m) (h1 : t'.1 1 = t.1 1) (h4 : t'.1 4 = t.1 4) (h6 : t'.1 6 = t.1 6) (h9 : t'.1 9 = t.1 9) (r3 : t'.2.2.1 3 = t.2.2.1 3) (r4 : t'.2.2.1 4 = t.2.2.1 4) (r5 : ∀ k, k < 64 → hx_p (t'.2.2.1 5 k)) (r7 : t'.2.2.1 7 = t.2.2.1 7) (r9 : t'.2.2.1 9 = t.2.2.1 9) (h10 : t'.1 10 = t.1 10 := by rfl) (h11 : t'.1 11 = t.1 11 := by rfl) : hx_inv t' z m := by
  obtain ⟨a1, a2, a3, a4, a5, a6, a7, a8, a9, a10, a11⟩ := hI
  exact ⟨h1.trans a1, h4.trans a2, a3, by rw [h6]; exact a4, by rw [h9]; exact a5, by rw [r3]; exact a6, by rw [r4]; exact a7, r5, by rw [r7]; exact a9, by rw [r9]; exact a10, by unfold hx_M; rw [h10, h11]; exact a11⟩
theorem hx_p_in {v : Int32} (h : hx_p v) (ne : ¬ v = -1) : ∃ p, p < 64 ∧ v = nI p := h.elim (fun z => absurd z ne) id
theorem hz_bc64 {K : Nat} {v : Int64} {Q : Int32 → Prop} (hK : 1 ≤ K) (h : ∀ j, j < 128 → Q (nI j)) : wqJ13_bitCount_95d88 K v Q := by
  obtain ⟨K, rfl⟩ : ∃ K', K = K' + 1 := ⟨K - 1, by omega⟩
  show wbJ13_bitCount_95d88_0 (wpJ13_bitCount_95d88 K) K (fun _ => 0) (uI (fun _ => 0) 0 v) Q
  intro v1 _ v2 _ v3 _ v4 _ v5 _ v6 _ v7 _ v8 _ v9 _ v10 _ v11 _ v12 _ v13 _ v14 _ v15 _ v16 _ v17 _ v18 e18
  obtain ⟨j, hj, e⟩ := pk_andE v17 (m := 127) 7 (by decide)
  rw [e18, e]
  exact h j hj
theorem hz_bit {K : Nat} {a : Int32} {Q : Int64 → Prop} (hK : 1 ≤ K) (h : ∀ v, Q v) : wqX11_bit K a Q := by
  obtain ⟨K, rfl⟩ : ∃ K', K = K' + 1 := ⟨K - 1, by omega⟩
  exact fun v _ => h v
theorem hz_isIn {K : Nat} {a : Int64} {b : Int32} {Q : Int32 → Prop} (hK : 1 ≤ K) (h1 : Q 1) (h0 : Q 0) : wqX11_isIn K a b Q := by
  obtain ⟨K, rfl⟩ : ∃ K', K = K' + 1 := ⟨K - 1, by omega⟩
  exact fun _ _ _ _ _ _ => ⟨fun _ => h0, fun _ => h1⟩
theorem hz_lowest {K : Nat} {a : Int64} {Q : Int32 → Prop} (hK : 2 ≤ K) (h : ∀ j, j < 64 → Q (nI j)) : wqX11_lowest K a Q := by
  obtain ⟨K, rfl⟩ : ∃ K', K = K' + 1 := ⟨K - 1, by omega⟩
  show wbX11_lowest_0 (wpX11_lowest K) K (fun _ => 0) (uI (fun _ => 0) 0 a) Q
  intro v1 _ v2 _ v3 _
  refine hz_bc64 (by omega) (fun i _ v5 e5 => ?_)
  obtain ⟨j, hj, e⟩ := pk_andE (nI i) (m := 63) 6 (by decide)
  rw [e5, e]
  exact h j hj
theorem hz_nth_go {b : Int32} {Q : Int32 → Prop} (hb : b ≤ nI 127) (h : ∀ j, j < 64 → Q (nI j)) :
    ∀ (d i K : Nat) (li : Nat → Int32) (lj : Nat → Int64), i + d = 127 → d + 5 ≤ K → li 2 = b → li 5 = nI i → wpX11_nth K 1 li lj Q := by
  have two : ∀ (K : Nat) (li : Nat → Int32) (lj : Nat → Int64), 4 ≤ K → wpX11_nth K 2 li lj Q := by
    intro K li lj hK
    obtain ⟨K, rfl⟩ : ∃ K', K = K' + 1 := ⟨K - 1, by omega⟩
    show wbX11_nth_2 (wpX11_nth K) K li lj Q
    exact hz_lowest (by omega) h
  intro d
  induction d with
  | zero =>
    intro i K li lj hd hK e2 e5
    obtain ⟨K, rfl⟩ : ∃ K', K = K' + 1 := ⟨K - 1, by omega⟩
    obtain rfl : i = 127 := by omega
    show wbX11_nth_1 (wpX11_nth K) K li lj Q
    exact ⟨fun _ => two K li lj (by omega), fun x => absurd (by rw [e2, e5]; exact hb) x⟩
  | succ d ih =>
    intro i K li lj hd hK e2 e5
    obtain ⟨K, rfl⟩ : ∃ K', K = K' + 1 := ⟨K - 1, by omega⟩
    show wbX11_nth_1 (wpX11_nth K) K li lj Q
    exact ⟨fun _ => two K li lj (by omega), fun _ v2 _ => ⟨fun _ => two K li lj (by omega), fun _ v4 _ v5 _ v6 e6 => ih (i + 1) K _ _ (by omega) (by omega) e2 (by show v6 = _; rw [e6, e5]; exact hs_inc i)⟩⟩
theorem hz_nth {K : Nat} {a : Int64} {b : Int32} {Q : Int32 → Prop} (hb : b ≤ nI 127) (hK : 200 ≤ K) (h : ∀ j, j < 64 → Q (nI j)) : wqX11_nth K a b Q := by
  obtain ⟨K, rfl⟩ : ∃ K', K = K' + 1 := ⟨K - 1, by omega⟩
  exact hz_nth_go hb h 127 0 K _ _ (by omega) (by omega) rfl rfl
theorem hz_listed {K : Nat} {a : Int64} {b : Int32} {Q : Int32 → Prop} (hK : 210 ≤ K) (h : ∀ r, Q r) : wqX11_listed K a b Q := by
  obtain ⟨K, rfl⟩ : ∃ K', K = K' + 1 := ⟨K - 1, by omega⟩
  show wbX11_listed_0 (wpX11_listed K) K (uI (fun _ => 0) 2 b) (uI (fun _ => 0) 0 a) Q
  refine hz_bc64 (by omega) (fun j hj => ⟨fun _ => ⟨fun _ => h _, fun y => ?_⟩, fun _ => h _⟩)
  refine hz_nth ?_ (by omega) (fun i _ => h _)
  have y : ¬ nI j ≤ b := y
  have y := Int32.lt_iff_toInt_lt.mp (Int32.not_le.mp y)
  refine Int32.le_iff_toInt_le.mpr ?_
  rw [nI_toInt (by omega)] at y ⊢
  show b.toInt ≤ _
  omega
theorem hz_isDim {K : Nat} {a : Int32} {Q : Int32 → Prop} (hK : 2 ≤ K) (h1 : ∀ d, d < 5 → a = nI d → Q 1) (h0 : Q 0) : wqX11_isDim K a Q := by
  obtain ⟨K, rfl⟩ : ∃ K', K = K' + 2 := ⟨K - 2, by omega⟩
  show wbX11_isDim_0 (wpX11_isDim (K + 1)) (K + 1) (uI (fun _ => 0) 0 a) (fun _ => 0) Q
  refine ⟨fun _ => h0, fun x => ⟨fun _ => h0, fun y => ?_⟩⟩
  have x : ¬ a < 0 := x
  have y : ¬ nI 5 ≤ a := y
  obtain ⟨d, _, d1, e⟩ := hq_between (a := a) (lo := 0) (hi := 4) (by omega) (by omega) ⟨Int32.not_lt.mp x, by
    have y := Int32.lt_iff_toInt_lt.mp (Int32.not_le.mp y)
    refine Int32.le_iff_toInt_le.mpr ?_
    rw [nI_toInt (by omega)] at y ⊢
    omega⟩
  exact h1 d (by omega) e
theorem hz_has {t : XT} {z : Int32} {m K : Nat} {a : Int32} {Q : Int32 → XT → Prop} (hI : hx_inv t z m) (hK : 2 ≤ K) (h1 : ∀ k, k < m → a = nI k → Q 1 t) (h0 : Q 0 t) : wqX9_has K t a Q := by
  obtain ⟨K, rfl⟩ : ∃ K', K = K' + 2 := ⟨K - 2, by omega⟩
  have m60 := hI.2.2.1
  show wbX9_has_0 (wpX9_has (K + 1)) (K + 1) t (uI (fun _ => 0) 1 a) (fun _ => 0) Q
  refine ⟨fun _ => h0, fun x => ⟨fun _ => h0, fun y => ?_⟩⟩
  have x : ¬ a < 0 := x
  have y : ¬ t.1 4 ≤ a := y
  rw [hI.2.1] at y
  have y := Int32.lt_iff_toInt_lt.mp (Int32.not_le.mp y)
  have x := Int32.le_iff_toInt_le.mp (Int32.not_lt.mp x)
  have x : 0 ≤ a.toInt := x
  rw [nI_toInt (by omega)] at y
  refine h1 a.toInt.toNat (by omega) (Int32.toInt_inj.mp ?_)
  rw [nI_toInt (by omega)]
  omega
theorem hz_isThere {t : XT} {z : Int32} {m K : Nat} {a : Int32} {Q : Int32 → XT → Prop} (hI : hx_inv t z m) (hK : 4 ≤ K) (h1 : ∀ k, k < m → a = nI k → Q 1 t) (h0 : Q 0 t) : wqX11_isThere K t a Q := by
  obtain ⟨K, rfl⟩ : ∃ K', K = K' + 2 := ⟨K - 2, by omega⟩
  show wbX11_isThere_0 (wpX11_isThere (K + 1)) (K + 1) t (uI (fun _ => 0) 1 a) (fun _ => 0) Q
  refine hz_has hI (by omega) (fun k hk e => ⟨fun x => absurd x (by decide), fun _ => ?_⟩) ⟨fun _ => h0, fun x => absurd rfl x⟩
  exact hz_isIn (by omega) ⟨fun x => absurd x (by decide), fun _ => h1 k hk e⟩ ⟨fun _ => h0, fun x => absurd rfl x⟩
theorem hz_unpaired {t : XT} {K : Nat} {Q : Int64 → XT → Prop} (hK : 1 ≤ K) (h : ∀ v, Q v t) : wqX6_unpaired K t Q := by
  obtain ⟨K, rfl⟩ : ∃ K', K = K' + 1 := ⟨K - 1, by omega⟩
  exact fun _ _ _ _ v _ => h v
theorem hz_isCritical {t : XT} {K : Nat} {a : Int32} {Q : Int32 → XT → Prop} (hK : 2 ≤ K) (h1 : Q 1 t) (h0 : Q 0 t) : wqX6_isCritical K t a Q := by
  obtain ⟨K, rfl⟩ : ∃ K', K = K' + 1 := ⟨K - 1, by omega⟩
  show wbX6_isCritical_0 (wpX6_isCritical K) K t (uI (fun _ => 0) 1 a) (fun _ => 0) Q
  exact hz_unpaired (by omega) (fun v => hz_isIn (by omega) ⟨Or.inr rfl, h1⟩ ⟨Or.inl rfl, h0⟩)
theorem hz_criticalOnes {t : XT} {K : Nat} {Q : Int32 → XT → Prop} (hK : 2 ≤ K) (h : ∀ r, Q r t) : wqX11_criticalOnes K t Q := by
  obtain ⟨K, rfl⟩ : ∃ K', K = K' + 1 := ⟨K - 1, by omega⟩
  show wbX11_criticalOnes_0 (wpX11_criticalOnes K) K t (fun _ => 0) (fun _ => 0) Q
  exact hz_unpaired (by omega) (fun v => hz_bc64 (by omega) (fun j _ => h _))
theorem hx_upd {P : Nat → Int32} {i : Nat} {v : Int32} (h : ∀ k, k < 64 → hx_p (P k)) (hv : hx_p v) : ∀ k, k < 64 → hx_p (upd P i v k) := by
  intro k hk
  by_cases x : k = i
  · rw [show upd P i v k = v from if_pos x]; exact hv
  · rw [show upd P i v k = P k from if_neg x]; exact h k hk
theorem hz_unite {t : XT} {z : Int32} {m f s K : Nat} {Q : XT → Prop} (hI : hx_inv t z m) (hf : f < 64) (hs : s < 64) (hK : 2 ≤ K) (h : ∀ t', hx_inv t' z m → Q t') : wqX6_unite K t (nI f) (nI s) Q := by
  obtain ⟨K, rfl⟩ : ∃ K', K = K' + 1 := ⟨K - 1, by omega⟩
  show wbX6_unite_0 (wpX6_unite K) K t (uI (uI (fun _ => 0) 1 (nI f)) 2 (nI s)) (fun _ => 0) Q
  refine ⟨vp_in_nI hf (by decide), fun t1 e1 => ⟨vp_in_nI hs (by decide), fun t2 e2 => hz_bit (by omega) (fun v3 v4 _ t5 e5 => hz_bit (by omega) (fun v6 v7 _ t8 e8 v9 _ t10 e10 => ?_))⟩⟩
  refine h t10 ?_
  subst e10 e8 e5 e2 e1
  refine hx_frame hI rfl rfl rfl rfl rfl rfl ?_ rfl rfl
  exact hx_upd (hx_upd hI.2.2.2.2.2.2.2.1 (Or.inr ⟨s, hs, rfl⟩)) (Or.inr ⟨f, hf, rfl⟩)
theorem hz_divide {t : XT} {z : Int32} {m k K : Nat} {Q : XT → Prop} (hI : hx_inv t z m) (hk : k < 64) (hK : 2 ≤ K) (h : ∀ t', hx_inv t' z m → Q t') : wqX6_divide K t (nI k) Q := by
  obtain ⟨K, rfl⟩ : ∃ K', K = K' + 1 := ⟨K - 1, by omega⟩
  have r5 := hI.2.2.2.2.2.2.2.1
  show wbX6_divide_0 (wpX6_divide K) K t (uI (fun _ => 0) 1 (nI k)) (fun _ => 0) Q
  refine ⟨vp_in_nI hk (by decide), fun v1 e1 => ⟨fun ne => ⟨vp_in_nI hk (by decide), fun t3 e3 => ?_⟩, fun _ => h t hI⟩⟩
  have e1 : v1 = t.2.2.1 5 k := e1.trans (congrArg (t.2.2.1 5) (nI_clamp (by omega)))
  obtain ⟨p, hp, ep⟩ := hx_p_in (by rw [e1]; exact r5 k hk : hx_p v1) ne
  subst ep
  refine ⟨vp_in_nI hp (by decide), fun t4 e4 => hz_bit (by omega) (fun v5 => hz_bit (by omega) (fun v6 v7 _ v8 _ v9 _ t10 e10 v11 _ t12 e12 v13 _ t14 e14 => ?_))⟩
  refine h t14 ?_
  subst e14 e12 e10 e4 e3
  refine hx_frame hI rfl rfl rfl rfl rfl rfl ?_ rfl rfl
  exact hx_upd (hx_upd r5 (Or.inl rfl)) (Or.inl rfl)
theorem hz_drop {t : XT} {z : Int32} {m k K : Nat} {Q : XT → Prop} (hI : hx_inv t z m) (hk : k < 64) (hK : 3 ≤ K) (h : ∀ t', hx_inv t' z m → Q t') : wqX6_drop K t (nI k) Q := by
  obtain ⟨K, rfl⟩ : ∃ K', K = K' + 1 := ⟨K - 1, by omega⟩
  show wbX6_drop_0 (wpX6_drop K) K t (uI (fun _ => 0) 1 (nI k)) (fun _ => 0) Q
  refine hz_divide hI hk (by omega) (fun t1 h1 => hz_bit (by omega) (fun v2 v3 _ v4 _ t5 e5 v6 _ t7 e7 => h t7 ?_))
  subst e7 e5
  exact hx_frame h1 rfl rfl rfl rfl rfl rfl h1.2.2.2.2.2.2.2.1 rfl rfl
theorem hz_restart {t : XT} {z : Int32} {m K : Nat} {a : Int64} {Q : XT → Prop} (hI : hx_inv t z m) (hK : 1 ≤ K) (h : ∀ t', hx_inv t' z m → Q t') : wqX6_restart K t a Q := by
  obtain ⟨K, rfl⟩ : ∃ K', K = K' + 1 := ⟨K - 1, by omega⟩
  show wbX6_restart_0 (wpX6_restart K) K t (fun _ => 0) (uI (fun _ => 0) 1 a) Q
  intro t1 e1 t2 e2 t3 e3 t4 e4 v5 _ t6 e6
  refine h t6 ?_
  subst e6 e4 e3 e2 e1
  exact hx_frame hI rfl rfl rfl rfl rfl rfl (fun _ _ => Or.inl rfl) rfl rfl
theorem hz_below {t : XT} {k K : Nat} {Q : Int64 → XT → Prop} (hk : k < 64) (hK : 1 ≤ K) (h : ∀ v, Q v t) : wqX6_below K t (nI k) Q := by
  obtain ⟨K, rfl⟩ : ∃ K', K = K' + 1 := ⟨K - 1, by omega⟩
  have i := vp_in_nI (n := k) (N := 64) hk (by decide)
  exact ⟨i, fun _ _ => ⟨fun _ => ⟨i, fun _ _ => ⟨i, fun _ _ _ _ _ _ v _ => h v⟩⟩, fun _ => ⟨i, fun v _ => h v⟩⟩⟩
theorem hz_steps {t : XT} {k K : Nat} {Q : Int64 → XT → Prop} (hk : k < 64) (hK : 1 ≤ K) (h : ∀ v, Q v t) : wqX6_steps K t (nI k) Q := by
  obtain ⟨K, rfl⟩ : ∃ K', K = K' + 1 := ⟨K - 1, by omega⟩
  have i := vp_in_nI (n := k) (N := 64) hk (by decide)
  exact ⟨i, fun _ _ => ⟨fun _ => ⟨i, fun _ _ => ⟨i, fun _ _ _ _ v _ => h v⟩⟩, fun _ => ⟨i, fun v _ => h v⟩⟩⟩
theorem hz_side {t : XT} {k K : Nat} {Q : Int32 → XT → Prop} (hk : k < 64) (hK : 2 ≤ K) (h : ∀ v, Q v t) : wqX6_side K t (nI k) Q := by
  obtain ⟨K, rfl⟩ : ∃ K', K = K' + 1 := ⟨K - 1, by omega⟩
  have i := vp_in_nI (n := k) (N := 64) hk (by decide)
  exact ⟨i, fun _ _ => ⟨fun _ => hz_isIn (by omega) ⟨fun _ => h _, fun _ => h _⟩ ⟨fun _ => h _, fun _ => h _⟩, fun _ => h _⟩⟩
theorem hz_howMany {t : XT} {K : Nat} {Q : Int32 → XT → Prop} (hK : 2 ≤ K) (h : ∀ v, Q v t) : wqX6_howMany K t Q := by
  obtain ⟨K, rfl⟩ : ∃ K', K = K' + 1 := ⟨K - 1, by omega⟩
  show wbX6_howMany_0 (wpX6_howMany K) K t (fun _ => 0) (fun _ => 0) Q
  exact hz_bc64 (by omega) (fun j _ => h _)
theorem hz_stays_go {t : XT} {z : Int32} {m : Nat} {Q : Int32 → XT → Prop} (hI : hx_inv t z m) (h : ∀ r, Q r t) :
    ∀ (d i K : Nat) (li : Nat → Int32) (lj : Nat → Int64), i + d = 60 → 2 * d + 10 ≤ K → li 7 = nI i → wpX6_staysAcyclic K 1 t li lj Q := by
  have three : ∀ (K : Nat) (li : Nat → Int32) (lj : Nat → Int64), 4 ≤ K → wpX6_staysAcyclic K 3 t li lj Q := by
    intro K li lj hK
    obtain ⟨K, rfl⟩ : ∃ K', K = K' + 1 := ⟨K - 1, by omega⟩
    show wbX6_staysAcyclic_3 (wpX6_staysAcyclic K) K t li lj Q
    exact hz_isIn (by omega) ⟨fun _ => h _, fun _ => h _⟩ ⟨fun _ => h _, fun _ => h _⟩
  intro d
  induction d with
  | zero =>
    intro i K li lj hd hK e7
    obtain ⟨K, rfl⟩ : ∃ K', K = K' + 1 := ⟨K - 1, by omega⟩
    obtain rfl : i = 60 := by omega
    show wbX6_staysAcyclic_1 (wpX6_staysAcyclic K) K t li lj Q
    exact ⟨fun _ => three K li lj (by omega), fun x => absurd (show nI 60 ≤ li 7 by rw [e7]; exact nI_le (by omega) (by omega)) x⟩
  | succ d ih =>
    intro i K li lj hd hK e7
    obtain ⟨K, rfl⟩ : ∃ K', K = K' + 2 := ⟨K - 2, by omega⟩
    have nx : ∀ (li' : Nat → Int32) (lj' : Nat → Int64), li' 7 = nI i → wpX6_staysAcyclic (K + 1) 2 t li' lj' Q := by
      intro li' lj' a7
      show wbX6_staysAcyclic_2 (wpX6_staysAcyclic K) K t li' lj' Q
      intro v e
      exact ih (i + 1) K _ _ (by omega) (by omega) (by show v = _; rw [e, a7]; exact hs_inc i)
    show wbX6_staysAcyclic_1 (wpX6_staysAcyclic (K + 1)) (K + 1) t li lj Q
    refine ⟨fun _ => three _ li lj (by omega), fun _ v7 _ => ⟨fun _ => three _ li lj (by omega), fun _ => ?_⟩⟩
    refine hz_lowest (by omega) (fun j hj => hz_bit (by omega) (fun v10 v11 _ v12 _ => ⟨vp_in_nI hj (by decide), fun v13 e13 => ⟨fun _ => nx _ _ e7, fun ne => ⟨vp_in_nI hj (by decide), fun v15 e15 => ?_⟩⟩⟩))
    have e13 : v13 = t.2.2.1 5 j := e13.trans (congrArg (t.2.2.1 5) (nI_clamp (by omega)))
    have e15 : v15 = t.2.2.1 5 j := e15.trans (congrArg (t.2.2.1 5) (nI_clamp (by omega)))
    obtain ⟨p, hp, ep⟩ := hx_p_in (by rw [e15]; exact hI.2.2.2.2.2.2.2.1 j hj : hx_p v15) (fun q => ne (e13.trans (e15.symm.trans q)))
    rw [ep]
    exact ⟨vp_in_nI hp (by decide), fun _ _ _ _ _ _ _ _ _ _ _ _ => nx _ _ e7⟩
theorem hz_staysAcyclic {t : XT} {z : Int32} {m s K : Nat} {a : Int32} {Q : Int32 → XT → Prop} (hI : hx_inv t z m) (hs : s < 64) (hK : 200 ≤ K) (h : ∀ r, Q r t) : wqX6_staysAcyclic K t a (nI s) Q := by
  obtain ⟨K, rfl⟩ : ∃ K', K = K' + 1 := ⟨K - 1, by omega⟩
  show wbX6_staysAcyclic_0 (wpX6_staysAcyclic K) K t (uI (uI (fun _ => 0) 1 a) 2 (nI s)) (fun _ => 0) Q
  refine ⟨vp_in_nI hs (by decide), fun v1 _ => hz_bit (by omega) (fun v2 v3 _ v4 _ v5 _ => ?_)⟩
  exact hz_stays_go hI h 60 0 K _ _ (by omega) (by omega) rfl
