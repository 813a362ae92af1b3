/-! ===== minors: the class's elimination, exactly: the minor that it leaves is above 0 ===== -/
theorem hx_small {x : Int} (h : x * x ≤ 2305843009213693952) : -2147483648 < x ∧ x < 2147483648 := by
  constructor
  · refine Int.lt_of_not_ge (fun q => ?_)
    have q : 2147483648 ≤ -x := by omega
    have := Int.mul_le_mul q q (by omega) (by omega)
    rw [Int.neg_mul_neg] at this
    omega
  · refine Int.lt_of_not_ge (fun q => ?_)
    have q : 2147483648 ≤ x := q
    have := Int.mul_le_mul q q (by omega) (by omega)
    omega
/-- cells ahead of a place are done, those behind it are not -/
def hb_G (x c : Nat) (E E' : Nat → Nat → Int) (r0 j0 : Nat) : Nat → Nat → Int := fun r j => if x < r ∧ c ≤ j ∧ (r < r0 ∨ r = r0 ∧ j < j0) then E' r j else E r j
theorem hb_cb_go {A : Nat → Int32} {B : Nat → Nat → Int32} {J : Nat → Int64} {a b x c : Nat} {p D : Int} {E E' : Nat → Nat → Int} {Q : XT → Prop} (ha : a < 64) (hb : b < 64) (hab : a * b ≤ 900) (ea : A 10 = nI a) (eb : A 11 = nI b) (hx : x < a) (hc : c < b) (ep : E x c = p) (hD : D ≠ 0) (hB : ∀ r j, x ≤ r → r < a → c ≤ j → j < b → E r j * E r j ≤ 2305843009213693952) (hB' : ∀ r j, x < r → r < a → c ≤ j → j < b → E' r j * E' r j ≤ 2305843009213693952) (hE : ∀ r j, x < r → r < a → c ≤ j → j < b → p * E r j - E r c * E x j = D * E' r j) (hQ : ∀ t', t'.1 = A → t'.2.2.1 = B → t'.2.1 = J → hx_E t' a b (fun r j => if x < r ∧ c ≤ j then E' r j else E r j) → Q t') :
    ∀ (d r K : Nat) (t : XT) (li : Nat → Int32) (lj : Nat → Int64), r + d = 64 → 80 * d + 5 ≤ K → t.1 = A → t.2.2.1 = B → t.2.1 = J → hx_E t a b (hb_G x c E E' r c) → x < r → (lj 3).toInt = D → (lj 5).toInt = p → li 1 = nI x → li 2 = nI c → li 7 = nI r → wpX5_clearBelow K 1 t li lj Q := by
  have fin : ∀ (r : Nat) (t : XT), a ≤ r → t.1 = A → t.2.2.1 = B → t.2.1 = J → hx_E t a b (hb_G x c E E' r c) → Q t := by
    intro r t har eA eB eJ hG
    refine hQ t eA eB eJ (hx_E_of hG (fun r' j hr' hj => ?_))
    show (if x < r' ∧ c ≤ j ∧ (r' < r ∨ r' = r ∧ j < c) then E' r' j else E r' j) = if x < r' ∧ c ≤ j then E' r' j else E r' j
    by_cases q : x < r' ∧ c ≤ j
    · rw [if_pos ⟨q.1, q.2, Or.inl (by omega)⟩, if_pos q]
    · rw [if_neg (fun z => q ⟨z.1, z.2.1⟩), if_neg q]
  intro d
  induction d with
  | zero =>
    intro r K t li lj hd hK eA eB eJ hG hxr n3 n5 e1 e2 e7
    obtain ⟨K, rfl⟩ : ∃ K', K = K' + 1 := ⟨K - 1, by omega⟩
    have ea : t.1 10 = nI a := by rw [eA]; exact ea
    show wbX5_clearBelow_1 (wpX5_clearBelow K) K t li lj Q
    exact ⟨fun _ => fin r t (by omega) eA eB eJ hG, fun x => absurd (by rw [ea, e7]; exact nI_le (by omega) (by omega)) x⟩
  | succ d ih =>
    intro r K t li lj hd hK eA eB eJ hG hxr n3 n5 e1 e2 e7
    obtain ⟨K, rfl⟩ : ∃ K', K = K' + 1 := ⟨K - 1, by omega⟩
    have ea1 : t.1 10 = nI a := by rw [eA]; exact ea
    have eb1 : t.1 11 = nI b := by rw [eA]; exact eb
    by_cases hr : r < a
    · have l3 : ¬ lj 3 = 0 := fun q => hD (by rw [← n3, q]; rfl)
      have row : ∀ t' : XT, hx_E t' a b (hb_G x c E E' r b) → hx_E t' a b (hb_G x c E E' (r + 1) c) := by
        intro t' h
        refine hx_E_of h (fun r' j hr' hj => ?_)
        show (if x < r' ∧ c ≤ j ∧ (r' < r ∨ r' = r ∧ j < b) then E' r' j else E r' j) = if x < r' ∧ c ≤ j ∧ (r' < r + 1 ∨ r' = r + 1 ∧ j < c) then E' r' j else E r' j
        by_cases q : x < r' ∧ c ≤ j ∧ r' ≤ r
        · rw [if_pos ⟨q.1, q.2.1, by omega⟩, if_pos ⟨q.1, q.2.1, by omega⟩]
        · rw [if_neg (fun z => q ⟨z.1, z.2.1, by omega⟩), if_neg (fun z => q ⟨z.1, z.2.1, by omega⟩)]
      have five : ∀ (K2 : Nat) (t' : XT) (li' : Nat → Int32) (lj' : Nat → Int64), 80 * d + 6 ≤ K2 → t'.1 = A → t'.2.2.1 = B → t'.2.1 = J → hx_E t' a b (hb_G x c E E' (r + 1) c) → (lj' 3).toInt = D → (lj' 5).toInt = p → li' 1 = nI x → li' 2 = nI c → li' 7 = nI r → wpX5_clearBelow K2 5 t' li' lj' Q := by
        intro K2 t' li' lj' h a1 a2 aJ aG a3 b5 a4 a5 a6
        obtain ⟨K2, rfl⟩ : ∃ K', K2 = K' + 1 := ⟨K2 - 1, by omega⟩
        show wbX5_clearBelow_5 (wpX5_clearBelow K2) K2 t' li' lj' Q
        intro v e
        exact ih (r + 1) K2 t' _ _ (by omega) (by omega) a1 a2 aJ aG (by omega) a3 b5 a4 a5 (by show v = _; rw [e, a6]; exact hs_inc r)
      have four : ∀ (f j K2 : Nat) (t' : XT) (li' : Nat → Int32) (lj' : Nat → Int64), j + f = 64 → c ≤ j → 80 * d + f + 7 ≤ K2 → t'.1 = A → t'.2.2.1 = B → t'.2.1 = J → hx_E t' a b (hb_G x c E E' r j) → (lj' 3).toInt = D → (lj' 5).toInt = p → (lj' 8).toInt = E r c → li' 1 = nI x → li' 2 = nI c → li' 7 = nI r → li' 10 = 1 → li' 11 = nI j → wpX5_clearBelow K2 4 t' li' lj' Q := by
        intro f
        induction f with
        | zero =>
          intro j K2 t' li' lj' hf hcj h a1 a2 aJ aG a3 b5 b8 a4 a5 a6 a10 a7
          obtain ⟨K2, rfl⟩ : ∃ K', K2 = K' + 1 := ⟨K2 - 1, by omega⟩
          have eb : t'.1 11 = nI b := by rw [a1]; exact eb
          have aG' : hx_E t' a b (hb_G x c E E' r b) := hx_E_of aG (fun r' j' hr' hj' => by
            show (if x < r' ∧ c ≤ j' ∧ (r' < r ∨ r' = r ∧ j' < j) then E' r' j' else E r' j') = if x < r' ∧ c ≤ j' ∧ (r' < r ∨ r' = r ∧ j' < b) then E' r' j' else E r' j'
            by_cases q : x < r' ∧ c ≤ j' ∧ r' ≤ r
            · rw [if_pos ⟨q.1, q.2.1, by omega⟩, if_pos ⟨q.1, q.2.1, by omega⟩]
            · rw [if_neg (fun z => q ⟨z.1, z.2.1, by omega⟩), if_neg (fun z => q ⟨z.1, z.2.1, by omega⟩)])
          show wbX5_clearBelow_4 (wpX5_clearBelow K2) K2 t' li' lj' Q
          exact ⟨fun _ => five K2 t' li' lj' (by omega) a1 a2 aJ (row t' aG') a3 b5 a4 a5 a6, fun x => absurd (by rw [eb, a7]; exact nI_le (by omega) (by omega)) x⟩
        | succ f ih2 =>
          intro j K2 t' li' lj' hf hcj h a1 a2 aJ aG a3 b5 b8 a4 a5 a6 a10 a7
          obtain ⟨K2, rfl⟩ : ∃ K', K2 = K' + 1 := ⟨K2 - 1, by omega⟩
          have eb : t'.1 11 = nI b := by rw [a1]; exact eb
          show wbX5_clearBelow_4 (wpX5_clearBelow K2) K2 t' li' lj' Q
          unfold wbX5_clearBelow_4
          rw [eb, a4, a6, a7, a10]
          refine ⟨fun ge => ?_, fun lt => ⟨fun q => absurd q (by decide), fun _ v17 f17 v18 f18 => ?_⟩⟩
          · have hbj : b ≤ j := (nI_leI (by omega) (by omega)).mp ge
            have aG' : hx_E t' a b (hb_G x c E E' r b) := hx_E_of aG (fun r' j' hr' hj' => by
              show (if x < r' ∧ c ≤ j' ∧ (r' < r ∨ r' = r ∧ j' < j) then E' r' j' else E r' j') = if x < r' ∧ c ≤ j' ∧ (r' < r ∨ r' = r ∧ j' < b) then E' r' j' else E r' j'
              by_cases q : x < r' ∧ c ≤ j' ∧ r' ≤ r
              · rw [if_pos ⟨q.1, q.2.1, by omega⟩, if_pos ⟨q.1, q.2.1, by omega⟩]
              · rw [if_neg (fun z => q ⟨z.1, z.2.1, by omega⟩), if_neg (fun z => q ⟨z.1, z.2.1, by omega⟩)])
            exact five K2 t' li' lj' (by omega) a1 a2 aJ (row t' aG') a3 b5 a4 a5 a6
          · have hj : j < b := Nat.lt_of_not_le (fun q => lt (nI_le q (by omega)))
            have f18 := hz_cellI f17 f18
            subst f18
            have hrj := hx_at hr hj hab
            have hxj := hx_at hx hj hab
            refine ⟨vp_in_nI hrj (by decide), fun v19 e19 v20 e20 v21 f21 v22 f22 => ?_⟩
            have f22 := hz_cellI f21 f22
            subst f22
            rw [nI_clamp (by omega)] at e19
            have g19 : v19.toInt = E r j := by
              rw [e19, aG r j hr hj]
              exact if_neg (fun z => by omega)
            refine ⟨vp_in_nI hxj (by decide), fun v23 e23 v24 e24 v25 e25 => ?_⟩
            rw [nI_clamp (by omega)] at e23
            have g23 : v23.toInt = E x j := by
              rw [e23, aG x j hx hj]
              exact if_neg (fun z => by omega)
            have b1 := hB r j (by omega) hr hcj hj
            have b2 := hB x c (Nat.le_refl x) hx (Nat.le_refl c) hc
            have b3 := hB r c (by omega) hr (Nat.le_refl c) hc
            have b4 := hB x j (Nat.le_refl x) hx hcj hj
            have b6 := hx_small (hB' r j hxr hr hcj hj)
            rw [ep] at b2
            have m1 := hx_prod b1 b2
            have m2 := hx_prod b3 b4
            have g20 : v20.toInt = E r j * p := by rw [e20]; exact hx_mul64 g19 b5 (by omega)
            have g24 : v24.toInt = E r c * E x j := by rw [e24]; exact hx_mul64 b8 g23 (by omega)
            have g25 : v25.toInt = D * E' r j := by
              rw [← hE r j hxr hr hcj hj, e25, Int64.toInt_sub, g20, g24, Int.mul_comm (E r j)]
              rw [Int.mul_comm (E r j)] at m1
              exact Int.bmod_eq_of_le (by omega) (by omega)
            refine ⟨fun q => hD (by rw [← a3, q]; rfl), fun v26 e26 => ⟨vp_in_nI hrj (by decide), fun t27 e27 v28 e28 => ?_⟩⟩
            have g26 : v26.toInt = E' r j := by rw [e26]; exact hx_div64 g25 a3 hD (by omega)
            rw [nI_clamp (by omega)] at e27
            refine ih2 (j + 1) K2 t27 _ _ (by omega) (by omega) (by omega) (by rw [e27]; exact a1) (by rw [e27]; exact a2) (by rw [e27]; exact aJ) ?_ a3 b5 b8 a4 a5 a6 a10 (by show v28 = _; rw [e28]; exact hs_inc j)
            rw [e27]
            refine hx_E_of (hx_E_put aG hj g26) (fun r' j' hr' hj' => ?_)
            show (if r' = r ∧ j' = j then E' r j else if x < r' ∧ c ≤ j' ∧ (r' < r ∨ r' = r ∧ j' < j) then E' r' j' else E r' j') = if x < r' ∧ c ≤ j' ∧ (r' < r ∨ r' = r ∧ j' < j + 1) then E' r' j' else E r' j'
            by_cases q : r' = r ∧ j' = j
            · rw [if_pos q, q.1, q.2, if_pos ⟨hxr, hcj, Or.inr ⟨rfl, by omega⟩⟩]
            · rw [if_neg q]
              by_cases q2 : x < r' ∧ c ≤ j' ∧ (r' < r ∨ r' = r ∧ j' < j)
              · rw [if_pos q2, if_pos ⟨q2.1, q2.2.1, by omega⟩]
              · rw [if_neg q2, if_neg (fun z => q2 ⟨z.1, z.2.1, by
                  rcases z.2.2 with h | ⟨h1, h2⟩
                  · exact Or.inl h
                  · exact Or.inr ⟨h1, by
                      have : ¬ j' = j := fun q3 => q ⟨h1, q3⟩
                      omega⟩⟩)]
      obtain ⟨K, rfl⟩ : ∃ K', K = K' + 2 := ⟨K - 2, by omega⟩
      have three1 : ∀ (K2 : Nat) (li' : Nat → Int32) (lj' : Nat → Int64), K + 1 ≤ K2 → (lj' 3).toInt = D → (lj' 5).toInt = p → (lj' 8).toInt = E r c → li' 1 = nI x → li' 2 = nI c → li' 7 = nI r → li' 100 = 1 → wpX5_clearBelow K2 3 t li' lj' Q := by
        intro K2 li' lj' h a3 b5 b8 a4 a5 a6 a100
        obtain ⟨K2, rfl⟩ : ∃ K', K2 = K' + 1 := ⟨K2 - 1, by omega⟩
        show wpX5_clearBelow K2 4 t (uI (uI li' 10 (li' 100)) 11 (li' 2)) lj' Q
        exact four (64 - c) c K2 t _ _ (by omega) (Nat.le_refl c) (by omega) eA eB eJ hG a3 b5 b8 a4 a5 a6 a100 a5
      have two : ∀ (li' : Nat → Int32) (lj' : Nat → Int64), (lj' 3).toInt = D → (lj' 5).toInt = p → (lj' 8).toInt = E r c → li' 1 = nI x → li' 2 = nI c → li' 7 = nI r → wpX5_clearBelow (K + 2) 2 t li' lj' Q := by
        intro li' lj' a3 b5 b8 a4 a5 a6
        show wpX5_clearBelow (K + 1) 3 t (uI li' 100 1) lj' Q
        exact three1 (K + 1) _ _ (by omega) a3 b5 b8 a4 a5 a6 rfl
      show wbX5_clearBelow_1 (wpX5_clearBelow (K + 2)) (K + 2) t li lj Q
      unfold wbX5_clearBelow_1
      rw [ea1, eb1, e2, e7]
      refine ⟨fun ge => absurd ge (nI_ge hr (by omega)), fun _ v8 f8 v9 f9 => ?_⟩
      have f9 := hz_cellI f8 f9
      subst f9
      have hrc := hx_at hr hc hab
      refine ⟨vp_in_nI hrc (by decide), fun v10 e10 v11 e11 => ?_⟩
      rw [nI_clamp (by omega)] at e10
      have g10 : v10.toInt = E r c := by
        rw [e10, hG r c hr hc]
        exact if_neg (fun z => by omega)
      refine ⟨fun _ => two _ _ n3 n5 g10 e1 e2 e7, fun z11 v13 e13 => ⟨fun z13 => ?_, fun _ => two _ _ n3 n5 g10 e1 e2 e7⟩⟩
      have h0 : v10 = 0 := (hs_cmp0 _ _).mp (e11.symm.trans z11)
      have h1 : lj 5 = lj 3 := (hs_cmp0 _ _).mp (e13.symm.trans z13)
      have pD : p = D := by rw [← n5, ← n3, h1]
      have rc0 : E r c = 0 := by rw [← g10, h0]; rfl
      show wpX5_clearBelow (K + 1) 4 t _ _ Q
      have eb2 : t.1 11 = nI b := eb1
      show wbX5_clearBelow_4 (wpX5_clearBelow K) K t _ _ Q
      have nxt : wpX5_clearBelow K 5 t (uI (uI (uI li 100 0) 10 (uI li 100 0 100)) 11 (uI li 100 0 2)) (uI lj 8 v10) Q := by
        refine five K t _ _ (by omega) eA eB eJ (hx_E_of hG (fun r' j hr' hj => ?_)) n3 n5 e1 e2 e7
        show (if x < r' ∧ c ≤ j ∧ (r' < r ∨ r' = r ∧ j < c) then E' r' j else E r' j) = if x < r' ∧ c ≤ j ∧ (r' < r + 1 ∨ r' = r + 1 ∧ j < c) then E' r' j else E r' j
        by_cases q : x < r' ∧ c ≤ j ∧ r' < r
        · rw [if_pos ⟨q.1, q.2.1, by omega⟩, if_pos ⟨q.1, q.2.1, by omega⟩]
        · rw [if_neg (fun z => q ⟨z.1, z.2.1, by omega⟩)]
          by_cases q2 : x < r' ∧ c ≤ j ∧ r' = r
          · rw [if_pos ⟨q2.1, q2.2.1, by omega⟩, q2.2.2]
            have g := hE r j hxr hr q2.2.1 hj
            rw [pD, rc0, Int.zero_mul, Int.sub_zero] at g
            exact Int.eq_of_mul_eq_mul_left hD g
          · rw [if_neg (fun z => q2 ⟨z.1, z.2.1, by
              have : ¬ r' < r := fun h => q ⟨z.1, z.2.1, h⟩
              omega⟩)]
      exact ⟨fun _ => nxt, fun _ => ⟨fun _ => nxt, fun z => absurd rfl z⟩⟩
    · show wbX5_clearBelow_1 (wpX5_clearBelow K) K t li lj Q
      exact ⟨fun _ => fin r t (by omega) eA eB eJ hG, fun x => absurd (by rw [ea1, e7]; exact nI_le (by omega) (by omega)) x⟩
