/-! ===== eliminate, behind q paired rows ===== -/
theorem eq_zero {q n a i c : Nat} {N D : Int} {w : ex (q + n)} {C : Nat → Bool} {X E : Nat → Nat → Int} (hI : eq_inv q n a i c N D w C X E) : ∀ r j, i ≤ r → r < a → j < c → E r j = 0 := by
  intro r j h1 h2 h3
  have h := hI.2.2.2.2.1 (q + r) (q + j) (by omega) (by omega) (by omega)
  exact eq_E.symm.trans h
theorem hb_el_q {qo : Nat} {A : Nat → Int32} {B : Nat → Nat → Int32} {a b : Nat} {N : Int} {Q : Int32 → XT → Prop} (ha : a < 64) (hb : b < 64) (hab : a * b ≤ 900) (ea : A 10 = nI a) (eb : A 11 = nI b) (hN : 0 ≤ N) (hNB : ∀ i, i < a → i < b → N ^ (qo + i) * N ≤ 2305843009213693952) (hQ : ∀ r t', r ≤ a → t'.1 = A → t'.2.2.1 = B → 0 < (t'.2.1 7).toInt → Q (nI r) t') :
    ∀ (d c r K : Nat) (t : XT) (li : Nat → Int32) (lj : Nat → Int64) (D : Int) (w : ex (qo + b)) (C : Nat → Bool) (X E : Nat → Nat → Int), c + d = 64 → 2 * d + 6010 ≤ K → r ≤ a → r ≤ c → t.1 = A → t.2.2.1 = B → hx_E t a b E → eq_inv qo b a r c N D w C X E → 0 < D → (lj 2).toInt = D → li 1 = nI r → li 4 = nI c → wpX5_eliminate K 1 t li lj Q := by
  have three : ∀ (r K : Nat) (t : XT) (li : Nat → Int32) (lj : Nat → Int64), 1 ≤ K → r ≤ a → t.1 = A → t.2.2.1 = B → 0 < (lj 2).toInt → li 1 = nI r → wpX5_eliminate K 3 t li lj Q := by
    intro r K t li lj hK hr eA eB hp e1
    obtain ⟨K, rfl⟩ : ∃ K', K = K' + 1 := ⟨K - 1, by omega⟩
    show wbX5_eliminate_3 (wpX5_eliminate K) K t li lj Q
    intro t15 e15
    rw [e1]
    exact hQ r t15 hr (by rw [e15]; exact eA) (by rw [e15]; exact eB) (by rw [e15]; exact hp)
  intro d
  induction d with
  | zero =>
    intro c r K t li lj D w C X E hd hK hr hrc eA eB hE hI hD e2 e1 e4
    obtain ⟨K, rfl⟩ : ∃ K', K = K' + 1 := ⟨K - 1, by omega⟩
    have eb : t.1 11 = nI b := by rw [eA]; exact eb
    show wbX5_eliminate_1 (wpX5_eliminate K) K t li lj Q
    exact ⟨fun _ => three r K t li lj (by omega) hr eA eB (by omega) e1, fun x => absurd (by rw [eb, e4]; exact nI_le (by omega) (by omega)) x⟩
  | succ d ih =>
    intro c r K t li lj D w C X E hd hK hr hrc eA eB hE hI hD e2 e1 e4
    obtain ⟨K, rfl⟩ : ∃ K', K = K' + 2 := ⟨K - 2, by omega⟩
    have nx : ∀ (r' : Nat) (t' : XT) (li' : Nat → Int32) (lj' : Nat → Int64) (D' : Int) (w' : ex (qo + b)) (C' : Nat → Bool) (X' E' : Nat → Nat → Int), r' ≤ a → r' ≤ c + 1 → t'.1 = A → t'.2.2.1 = B → hx_E t' a b E' → eq_inv qo b a r' (c + 1) N D' w' C' X' E' → 0 < D' → (lj' 2).toInt = D' → li' 1 = nI r' → li' 4 = nI c → wpX5_eliminate (K + 1) 2 t' li' lj' Q := by
      intro r' t' li' lj' D' w' C' X' E' a0 a00 a1 a2 a3 a4 a5 a6 a7 a8
      show wbX5_eliminate_2 (wpX5_eliminate K) K t' li' lj' Q
      intro v e
      exact ih (c + 1) r' K t' _ _ D' w' C' X' E' (by omega) (by omega) a0 a00 a1 a2 a3 a4 a5 a6 a7 (by show v = _; rw [e, a8]; exact hs_inc c)
    have ea1 : t.1 10 = nI a := by rw [eA]; exact ea
    have eb1 : t.1 11 = nI b := by rw [eA]; exact eb
    show wbX5_eliminate_1 (wpX5_eliminate (K + 1)) (K + 1) t li lj Q
    unfold wbX5_eliminate_1
    rw [ea1, eb1, e1, e4]
    refine ⟨fun _ => three r _ t li lj (by omega) hr eA eB (by omega) e1, fun x1 => ⟨fun _ => three r _ t li lj (by omega) hr eA eB (by omega) e1, fun x2 => ?_⟩⟩
    have hc : c < b := Nat.lt_of_not_le (fun q => x1 (nI_le q (by omega)))
    have hra : r < a := Nat.lt_of_not_le (fun q => x2 (nI_le q (by omega)))
    have hM : hx_ab t a b := ⟨ha, hb, hab, ea1, eb1⟩
    have NB := hNB r hra (by omega)
    refine hb_firstRow hM hE (by omega) hc (by omega) (fun y hy1 hy hne => ⟨fun q => ?_, fun _ => ?_⟩) (fun hz => ⟨fun _ => nx r t _ _ D w C X E hr (by omega) eA eB hE (eq_skip hI hz) hD e2 e1 e4, fun x => absurd rfl x⟩)
    · exfalso
      have w : (nI y).toInt = (-1 : Int32).toInt := congrArg Int32.toInt q
      rw [nI_toInt (by omega)] at w
      have w : (y : Int) = -1 := w
      omega
    · refine hb_swap hM hra hy hE (by omega) (fun t7 a7 b7 j7 E7 => ?_)
      have M7 : hx_ab t7 a b := hx_put hM a7
      have I7 : eq_inv qo b a r c N D w C (fun k => X (if k = r then y else if k = y then r else k)) (fun k j => E (if k = r then y else if k = y then r else k) j) := by
        refine eq_perm hI (fun k k1 k2 => ⟨if k = r then y else if k = y then r else k, ?_, ?_, Or.inl ⟨rfl, fun _ _ => rfl⟩⟩)
        · by_cases q : k = r
          · rw [if_pos q]; exact hy1
          · rw [if_neg q]
            by_cases q2 : k = y
            · rw [if_pos q2]; exact Nat.le_refl r
            · rw [if_neg q2]; exact k1
        · by_cases q : k = r
          · rw [if_pos q]; exact hy
          · rw [if_neg q]
            by_cases q2 : k = y
            · rw [if_pos q2]; exact hra
            · rw [if_neg q2]; exact k2
      have ne7 : (fun k j => E (if k = r then y else if k = y then r else k) j) r c ≠ 0 := by
        show E (if r = r then y else if r = y then r else r) c ≠ 0
        rw [if_pos rfl]; exact hne
      generalize hX7 : (fun k => X (if k = r then y else if k = y then r else k)) = X7 at I7
      generalize hE7 : (fun k j => E (if k = r then y else if k = y then r else k) j) = F7 at I7 E7 ne7
      have goOn : ∀ (t8 : XT) (X8 F8 : Nat → Nat → Int), t8.1 = t7.1 → t8.2.2.1 = t7.2.2.1 → hx_E t8 a b F8 → eq_inv qo b a r c N D w C X8 F8 → 0 < F8 r c → wqX5_clearBelow (K + 1) t8 (nI r) (nI c) (lj 2) (fun t_9 => (∀ v_10 : Int32, v_10 = (nI r) * (t_9.1 11) → (∀ v_11 : Int32, v_11 = (v_10 + (nI c)) → (vp_in v_11 900 ∧ (∀ v_12 : Int64, v_12 = (t_9.2.2.2 8) v_11.toNatClampNeg → (∀ v_13 : Int32, v_13 = (nI r) + Int32.ofInt 1 → wpX5_eliminate (K + 1) 2 t_9 (uI (uI li 1 v_13) 5 (nI y)) (uI lj 2 v_12) Q)))))) := by
        intro t8 X8 F8 a8 b8 E8 I8 pos
        have M8 : hx_ab t8 a b := hx_put M7 a8
        obtain ⟨E', hE'⟩ : ∃ E' : Nat → Nat → Int, E' = fun k j => (F8 r c * F8 k j - F8 k c * F8 r j) / D := ⟨_, rfl⟩
        have dv : ∀ k j, r < k → k < a → j < b → F8 r c * F8 k j - F8 k c * F8 r j = D * E' k j := by
          intro k j k1 k2 k3
          obtain ⟨m, em⟩ := eq_div I8 hra hc (by omega) k1 k2 k3
          rw [hE']
          show _ = D * ((F8 r c * F8 k j - F8 k c * F8 r j) / D)
          rw [em, Int.mul_ediv_cancel_left m (by omega)]
        have z4 := eq_zero I8
        have E0 : ∀ k j, r < k → k < a → j < c + 1 → E' k j = 0 := by
          intro k j k1 k2 k3
          rw [hE']
          show (F8 r c * F8 k j - F8 k c * F8 r j) / D = 0
          by_cases q : j = c
          · rw [q, Int.mul_comm (F8 k c), Int.sub_self, Int.zero_ediv]
          · rw [z4 k j (by omega) k2 (by omega), z4 r j (Nat.le_refl r) hra (by omega), Int.mul_zero, Int.mul_zero, Int.sub_self, Int.zero_ediv]
        have I9 := eq_step I8 hN hra hc (by omega) dv E0
        have I9' : eq_inv qo b a (r + 1) (c + 1) N (F8 r c) (ex_w (qo + b) (X8 r) w) (fun k => C k || decide (k = qo + c)) X8 (fun k j => if r < k ∧ c ≤ j then E' k j else F8 k j) := by
          refine eq_perm I9 (fun k k1 k2 => ⟨k, k1, k2, Or.inl ⟨rfl, fun j _ => ?_⟩⟩)
          show (if r < k ∧ c ≤ j then E' k j else F8 k j) = E' k j
          by_cases q : c ≤ j
          · rw [if_pos ⟨by omega, q⟩]
          · rw [if_neg (fun z => q z.2), z4 k j (by omega) k2 (by omega), E0 k j (by omega) k2 (by omega)]
        obtain ⟨ha8, hb8, hab8, ea8, eb8⟩ := M8
        show wbX5_clearBelow_0 (wpX5_clearBelow K) K t8 (uI (uI (fun _ => 0) 1 (nI r)) 2 (nI c)) (uI (fun _ => 0) 3 (lj 2)) _
        unfold wbX5_clearBelow_0
        rw [eb8]
        intro v1 f1 v2 f2
        have f2 := hz_cellI f1 f2
        subst f2
        have hrc2 := hx_at hra hc hab
        refine ⟨vp_in_nI hrc2 (by decide), fun v3 e3 v4 e4' => ⟨fun _ v6 e6 => ?_, fun z => ?_⟩⟩
        · rw [nI_clamp (by omega)] at e3
          have g3 : v3.toInt = F8 r c := by rw [e3]; exact E8 r c hra hc
          refine hb_cb_go (A := A) (B := B) (J := t8.2.1) (E := F8) (E' := E') ha hb hab ea eb hra hc rfl (show D ≠ 0 by omega) (fun k j k1 k2 k3 k4 => Int.le_trans (eq_bound I8 hN k1 k2 k3 k4) NB) (fun k j k1 k2 k3 k4 => ?_) (fun k j k1 k2 k3 k4 => dv k j k1 k2 k4) (fun t9 a9 b9 _ E9 v10 f10 v11 f11 => ?_) (64 - (r + 1)) (r + 1) K t8 _ _ (by omega) (by omega) (a8.trans (a7.trans eA)) (b8.trans (b7.trans eB)) rfl ?_ (by omega) e2 g3 rfl rfl (by show v6 = _; rw [e6]; exact nI_1 r)
          · by_cases q : j = c
            · rw [q, E0 k c k1 k2 (by omega)]; decide
            · exact Int.le_trans (eq_bound I9 hN (by omega) k2 (by omega) k4) (hNB (r + 1) (by omega) (by omega))
          · have eb9 : t9.1 11 = nI b := by rw [a9]; exact eb
            rw [eb9] at f10
            have f11 := hz_cellI f10 f11
            subst f11
            refine ⟨vp_in_nI hrc2 (by decide), fun v12 e12 v13 e13 => ?_⟩
            rw [nI_clamp (by omega)] at e12
            have g12 : v12.toInt = F8 r c := by
              rw [e12, E9 r c hra hc]
              exact if_neg (fun z => by omega)
            exact nx (r + 1) t9 _ _ (F8 r c) _ _ X8 _ (by omega) (by omega) a9 b9 E9 I9' pos g12 (by show v13 = _; rw [e13]; exact hs_inc r) e4
          · refine hx_E_of E8 (fun k j _ _ => ?_)
            show F8 k j = if r < k ∧ c ≤ j ∧ (k < r + 1 ∨ k = r + 1 ∧ j < c) then E' k j else F8 k j
            rw [if_neg (fun z => by omega)]
        · exfalso
          have q : lj 2 = 0 := (hs_cmp0 _ _).mp (e4'.symm.trans z)
          rw [q] at e2
          have e2 : (0 : Int) = D := e2
          omega
      have bd7 : ∀ j, c ≤ j → j < b → F7 r j * F7 r j ≤ 2305843009213693952 := fun j k1 k2 => Int.le_trans (eq_bound I7 hN (Nat.le_refl r) hra k1 k2) NB
      refine hb_makePositive M7 hra hc E7 bd7 (by omega) (fun t8 a8 b8 j8 E8 le => ?_) (fun pos => goOn t7 X7 F7 rfl rfl E7 I7 pos)
      refine goOn t8 (fun k j => if k = r then -X7 k j else X7 k j) _ a8 b8 E8 ?_ ?_
      · have z4 := eq_zero I7
        refine eq_perm I7 (fun k k1 k2 => ⟨k, k1, k2, ?_⟩)
        by_cases q : k = r
        · refine Or.inr ⟨fun j _ => if_pos q, fun j hj => ?_⟩
          show (if k = r ∧ c ≤ j then -F7 k j else F7 k j) = -F7 k j
          by_cases q2 : c ≤ j
          · rw [if_pos ⟨q, q2⟩]
          · rw [if_neg (fun z => q2 z.2), z4 k j k1 k2 (by omega)]; rfl
        · refine Or.inl ⟨funext (fun j => if_neg q), fun j _ => ?_⟩
          show (if k = r ∧ c ≤ j then -F7 k j else F7 k j) = F7 k j
          rw [if_neg (fun z => q z.1)]
      · show 0 < (if r = r ∧ c ≤ c then -F7 r c else F7 r c)
        rw [if_pos ⟨rfl, Nat.le_refl c⟩]
        omega
theorem hb_eliminate_q {qo : Nat} {t : XT} {z : Int32} {m K a b : Nat} {N : Int} {T X : Nat → Nat → Int} {w : ex (qo + b)} {C : Nat → Bool} {Q : Int32 → XT → Prop} (hI : hx_inv t z m) (hM : hx_ab t a b) (hT : ∀ r c, r < a → c < b → (t.2.2.2 7 (r * b + c)).toInt = T r c) (hN : 1 ≤ N) (hX : eq_inv qo b a 0 0 N 1 w C X T) (hNB : ∀ i, i < a → i < b → N ^ (qo + i) * N ≤ 2305843009213693952) (hK : 7000 ≤ K) (hQ : ∀ r t', r < 64 → hx_inv t' z m → 0 < (t'.2.1 7).toInt → Q (nI r) t') : wqX5_eliminate K t Q := by
  obtain ⟨K, rfl⟩ : ∃ K', K = K' + 1 := ⟨K - 1, by omega⟩
  obtain ⟨ha, hb, hab, ea, eb⟩ := hM
  show wbX5_eliminate_0 (wpX5_eliminate K) K t (fun _ => 0) (fun _ => 0) Q
  unfold wbX5_eliminate_0
  rw [ea, eb]
  intro v1 e1
  have e1 : v1 = nI (a * b) := e1.trans (pk_mul a b)
  subst e1
  have c1 : (nI (a * b)).toNatClampNeg = a * b := nI_clamp (by omega)
  have c0 : (0 : Int32).toNatClampNeg = 0 := by decide
  refine ⟨by decide, by decide, nI_pos (by omega), by rw [c1, c0]; omega, by rw [c1, c0]; omega, fun t2 e2 => ?_⟩
  rw [c0, c1] at e2
  refine hb_el_q (A := t.1) (B := t.2.2.1) (N := N) ha hb hab ea eb (by omega) hNB (fun r t' hr a1 b1 hp => hQ r t' (by omega) (hx_same hI a1 b1) hp) 64 0 0 K t2 _ _ 1 w C X T (by omega) (by omega) (by omega) (by omega) (by rw [e2]; rfl) (by rw [e2]; rfl) (fun r c hr hc => ?_) hX (by decide) (by decide) rfl rfl
  rw [e2]
  show (va_cpy (t.2.2.2 7) (t.2.2.2 8) 0 0 (a * b) (r * b + c)).toInt = T r c
  have l := hx_lt hr hc
  rw [pk_cpy_in (Nat.zero_le _) (by omega), Nat.zero_add, Nat.sub_zero]
  exact hT r c hr hc
