/-! ===== cancel: the loops of both sides ===== -/
theorem hz_inc2 (c : Nat) : nI c + Int32.ofInt 2 = nI (c + 2) := by
  rw [← nI_1 (c + 1), ← nI_1 c, Int32.add_assoc]; rfl
/-- the list stands in the row from i on -/
def hrw (R : Nat → Int32) (i : Nat) (r : List Nat) : Prop := ∀ j, j < r.length → R (i + j) = nI (r.getD j 0)
theorem hrw_hd {R : Nat → Int32} {i a : Nat} {r : List Nat} (h : hrw R i (a :: r)) : R i = nI a := h 0 (Nat.succ_pos _)
theorem hrw_tl {R : Nat → Int32} {i a : Nat} {r : List Nat} (h : hrw R i (a :: r)) : hrw R (i + 1) r := by
  intro j hj
  have w := h (j + 1) (by show j + 1 < r.length + 1; omega)
  rw [show i + 1 + j = i + (j + 1) by omega]
  exact w
theorem hmx_cl {u : XT} {lj : Nat → Int64} {R : Nat → Int32} {n M : Nat} {Q : Int32 → XT → Prop} (h5 : u.1 5 = nI n) (hn : n ≤ 120) (hR : u.2.2.1 10 = R) :
    ∀ (r : List Nat) (i K : Nat) (P li : Nat → Int32), i + r.length = n → hrw R i r → (∀ y, y ∈ r → y < 60) → r.length + M + 1 ≤ K → li 3 = nI i → (∀ (K' : Nat) (li' : Nat → Int32), M ≤ K' → li' 3 = 0 → wpX12_cancel K' 2 (sA u 4 (hcl P r)) li' lj Q) → wpX12_cancel K 1 (sA u 4 P) li lj Q := by
  intro r
  induction r with
  | nil =>
    intro i K P li hi hr hy hK e3 cont
    obtain ⟨K, rfl⟩ : ∃ K', K = K' + 1 := ⟨K - 1, by omega⟩
    have hi : i + 0 = n := hi
    show wbX12_cancel_1 (wpX12_cancel K) K (sA u 4 P) li lj Q
    refine ⟨fun _ => cont K _ (by omega) rfl, fun x => absurd ?_ x⟩
    show u.1 5 ≤ li 3
    rw [h5, e3]; exact nI_le (by omega) (by omega)
  | cons a r ih =>
    intro i K P li hi hr hy hK e3 cont
    obtain ⟨K, rfl⟩ : ∃ K', K = K' + 1 := ⟨K - 1, by omega⟩
    have hi : i + (r.length + 1) = n := hi
    have hK : r.length + 1 + M + 1 ≤ K + 1 := hK
    have ha := hy a List.mem_cons_self
    show wbX12_cancel_1 (wpX12_cancel K) K (sA u 4 P) li lj Q
    unfold wbX12_cancel_1
    rw [e3]
    refine ⟨fun x => absurd (show u.1 5 ≤ nI i from x) (by rw [h5]; exact nI_ge (by omega) (by omega)), fun _ => ⟨vp_in_nI (n := i) (by omega) (by decide), fun v9 e9 => ?_⟩⟩
    have e9 : v9 = nI a := e9.trans (by show u.2.2.1 10 (nI i).toNatClampNeg = _; rw [hR, nI_clamp (by omega)]; exact hrw_hd hr)
    subst e9
    refine ⟨vp_in_nI (n := a) (by omega) (by decide), fun t10 e10 v11 e11 => ?_⟩
    have e10 : t10 = sA u 4 (upd P a (-1)) := by
      rw [e10]
      show sA (sA u 4 P) 4 (upd P (nI a).toNatClampNeg (-1)) = _
      rw [hm_sAA, nI_clamp (by omega)]
    rw [e10]
    exact ih (i + 1) K _ _ (by omega) (hrw_tl hr) (fun y q => hy y (List.mem_cons_of_mem a q)) (by omega) (by show v11 = _; rw [e11]; exact hs_inc i) cont
theorem hmx_tn {u tm : XT} {lj : Nat → Int64} {R : Nat → Int32} {c n M : Nat} {Q : Int32 → XT → Prop} (hc : c ≤ 60) (ho : ∀ f s, f < c → s < c → hm_face tm f s → f < s) (h5 : u.1 5 = nI n) (hn : n ≤ 100) (hR : u.2.2.1 10 = R) :
    ∀ (N : Nat) (r : List Nat) (i K : Nat) (P li : Nat → Int32), r.length ≤ N → hcm tm c r → i + r.length = n → hrw R i r → r.length + M + 1 ≤ K → li 3 = nI i → (∀ (K' : Nat), M ≤ K' → wqX12_criticalMany K' (sA u 4 (htn P r)) Q) → wpX12_cancel K 2 (sA u 4 P) li lj Q := by
  intro N
  have done : ∀ (i K : Nat) (P li : Nat → Int32), i = n → M + 1 ≤ K → li 3 = nI i → (∀ (K' : Nat), M ≤ K' → wqX12_criticalMany K' (sA u 4 P) Q) → wpX12_cancel K 2 (sA u 4 P) li lj Q := by
    intro i K P li hi hK e3 cont
    obtain ⟨K, rfl⟩ : ∃ K', K = K' + 1 := ⟨K - 1, by omega⟩
    show wbX12_cancel_2 (wpX12_cancel K) K (sA u 4 P) li lj Q
    intro v12 e12
    have e12 : v12 = nI (i + 1) := by rw [e12, e3]; exact nI_1 i
    refine ⟨fun _ => cont K (by omega), fun x => absurd ?_ x⟩
    show u.1 5 ≤ v12
    rw [h5, e12]; exact nI_le (by omega) (by omega)
  induction N with
  | zero =>
    intro r i K P li hN hm hi hr hK e3 cont
    cases r with
    | nil => exact done i K P li hi (by omega) e3 cont
    | cons a r => exact absurd hN (by show ¬ (r.length + 1 ≤ 0); omega)
  | succ N ih =>
    intro r i K P li hN hm hi hr hK e3 cont
    match r, hm with
    | [], _ => exact done i K P li hi (by omega) e3 cont
    | a :: f :: r, hm =>
      obtain ⟨ha, hf, fc, hm'⟩ := hm
      have fa : f < a := ho f a hf ha fc
      have len2 : (a :: f :: r).length = r.length + 2 := rfl
      obtain ⟨K, rfl⟩ : ∃ K', K = K' + 1 := ⟨K - 1, by omega⟩
      have ra := hrw_hd hr
      have rf := hrw_hd (hrw_tl hr)
      have ci : (nI i).toNatClampNeg = i := nI_clamp (by omega)
      have ci1 : (nI (i + 1)).toNatClampNeg = i + 1 := nI_clamp (by omega)
      show wbX12_cancel_2 (wpX12_cancel K) K (sA u 4 P) li lj Q
      unfold wbX12_cancel_2
      rw [e3]
      intro v12 e12
      have e12 : v12 = nI (i + 1) := by rw [e12]; exact nI_1 i
      subst e12
      refine ⟨fun x => absurd (show u.1 5 ≤ nI (i + 1) from x) (by rw [h5]; exact nI_ge (by omega) (by omega)), fun _ => ⟨vp_in_nI (n := i) (by omega) (by decide), fun v15 e15 v16 e16 => ?_⟩⟩
      have e16 : v16 = nI (i + 1) := by rw [e16]; exact nI_1 i
      subst e16
      refine ⟨vp_in_nI (n := i + 1) (by omega) (by decide), fun v17 e17 => ?_⟩
      have e15 : v15 = nI a := e15.trans (by show u.2.2.1 10 (nI i).toNatClampNeg = _; rw [hR, ci]; exact ra)
      have e17 : v17 = nI f := e17.trans (by show u.2.2.1 10 (nI (i + 1)).toNatClampNeg = _; rw [hR, ci1]; exact rf)
      subst e15
      subst e17
      refine ⟨vp_in_nI (n := a) (by omega) (by decide), fun t18 e18 v19 e19 => ?_⟩
      have e18 : t18 = sA u 4 (upd P a (nI f)) := by
        rw [e18]
        show sA (sA u 4 P) 4 (upd P (nI a).toNatClampNeg (nI f)) = _
        rw [hm_sAA, nI_clamp (by omega)]
      subst e18
      have e19 : v19 = nI (i + 1) := by rw [e19]; exact nI_1 i
      subst e19
      refine ⟨vp_in_nI (n := i + 1) (by omega) (by decide), fun v20 e20 => ⟨vp_in_nI (n := i) (by omega) (by decide), fun v21 e21 => ?_⟩⟩
      have e20 : v20 = nI f := e20.trans (by show u.2.2.1 10 (nI (i + 1)).toNatClampNeg = _; rw [hR, ci1]; exact rf)
      have e21 : v21 = nI a := e21.trans (by show u.2.2.1 10 (nI i).toNatClampNeg = _; rw [hR, ci]; exact ra)
      subst e20
      subst e21
      refine ⟨vp_in_nI (n := f) (by omega) (by decide), fun t22 e22 v23 e23 => ?_⟩
      have e22 : t22 = sA u 4 (hq_two P f a) := by
        rw [e22]
        show sA (sA u 4 (upd P a (nI f))) 4 (upd (upd P a (nI f)) (nI f).toNatClampNeg (nI a)) = _
        rw [hm_sAA, nI_clamp (by omega), hq_two_sw (by omega)]
      rw [e22]
      have e23 : v23 = nI (i + 2) := by rw [e23]; exact hz_inc2 i
      exact ih r (i + 2) K _ _ (by omega) hm' (by omega) (hrw_tl (hrw_tl hr)) (by omega) e23 cont
theorem hdv_or {P : Nat → Int32} {c k : Nat} (h : ∀ y, y < c → P y = -1 ∨ ∃ o, o < c ∧ P y = nI o) : ∀ y, y < c → hq_free P k y = -1 ∨ ∃ o, o < c ∧ hq_free P k y = nI o := by
  intro y hy
  unfold hq_free
  by_cases q : P k = -1
  · rw [if_pos q]; exact h y hy
  · rw [if_neg q]
    show (if y = k then (-1 : Int32) else if y = (P k).toNatClampNeg then -1 else P y) = -1 ∨ ∃ o, o < c ∧ (if y = k then (-1 : Int32) else if y = (P k).toNatClampNeg then -1 else P y) = nI o
    by_cases a : y = k
    · rw [if_pos a]; exact Or.inl rfl
    · rw [if_neg a]
      by_cases b : y = (P k).toNatClampNeg
      · rw [if_pos b]; exact Or.inl rfl
      · rw [if_neg b]; exact h y hy
/-- the class's first round: what stands between is parted -/
theorem hpx_dv {c n M : Nat} {G : Nat → Prop} {lj : Nat → Int64} {R : Nat → Int32} {Q : Int32 → XT → Prop} (hc : c ≤ 60) (hn : n ≤ 60) :
    ∀ (N : Nat) (r : List Nat) (i K : Nat) (P li : Nat → Int32) (u : XT), r.length ≤ N → i + r.length = n → hrw R i r → (∀ y, y ∈ r → y < c) → (∀ y, y < c → P y = -1 ∨ ∃ o, o < c ∧ P y = nI o) → r.length + M + 10 ≤ K → li 3 = nI n → li 4 = nI i → hpX u c P G → u.2.2.1 8 = R →
      (∀ (K' : Nat) (li' : Nat → Int32) (u' : XT), M ≤ K' → li' 3 = nI n → li' 4 = 1 → hpK u' = hpK u → hpX u' c (hdv P r) G → u'.2.2.1 8 = R → wpX11_cancel K' 2 u' li' lj Q) → wpX11_cancel K 1 u li lj Q := by
  intro N
  have done : ∀ (i K : Nat) (P li : Nat → Int32) (u : XT), i ≤ n → n ≤ i + 1 → M + 10 ≤ K → li 3 = nI n → li 4 = nI i → hpX u c P G → u.2.2.1 8 = R → (∀ (K' : Nat) (li' : Nat → Int32) (u' : XT), M ≤ K' → li' 3 = nI n → li' 4 = 1 → hpK u' = hpK u → hpX u' c P G → u'.2.2.1 8 = R → wpX11_cancel K' 2 u' li' lj Q) → wpX11_cancel K 1 u li lj Q := by
    intro i K P li u h1 h2 hK e3 e4 hX hR cont
    obtain ⟨K, rfl⟩ : ∃ K', K = K' + 1 := ⟨K - 1, by omega⟩
    show wbX11_cancel_1 (wpX11_cancel K) K u li lj Q
    intro v8 e8
    have e8 : v8 = nI (i + 1) := by rw [e8, e4]; exact nI_1 i
    refine ⟨fun _ => cont K _ u (by omega) e3 rfl rfl hX hR, fun x => absurd ?_ x⟩
    rw [e3, e8]; exact nI_le (by omega) (by omega)
  induction N with
  | zero =>
    intro r i K P li u hN hi hr hy hp hK e3 e4 hX hR cont
    cases r with
    | nil =>
      have hi : i + 0 = n := hi
      exact done i K P li u (by omega) (by omega) (by omega) e3 e4 hX hR cont
    | cons a r => exact absurd hN (by show ¬ (r.length + 1 ≤ 0); omega)
  | succ N ih =>
    intro r i K P li u hN hi hr hy hp hK e3 e4 hX hR cont
    match r with
    | [] =>
      have hi : i + 0 = n := hi
      exact done i K P li u (by omega) (by omega) (by omega) e3 e4 hX hR cont
    | [f] =>
      have hi : i + 1 = n := hi
      exact done i K P li u (by omega) (by omega) (by omega) e3 e4 hX hR cont
    | f :: p :: r =>
      have len2 : (f :: p :: r).length = r.length + 2 := rfl
      obtain ⟨K, rfl⟩ : ∃ K', K = K' + 1 := ⟨K - 1, by omega⟩
      have hf := hy f List.mem_cons_self
      show wbX11_cancel_1 (wpX11_cancel K) K u li lj Q
      unfold wbX11_cancel_1
      rw [e3, e4]
      intro v8 e8
      have e8 : v8 = nI (i + 1) := by rw [e8]; exact nI_1 i
      subst e8
      refine ⟨fun x => absurd x (nI_ge (by omega) (by omega)), fun _ => ⟨vp_in_nI (n := i) (by omega) (by decide), fun v10 e10 => ?_⟩⟩
      have e10 : v10 = nI f := e10.trans (by rw [hR, nI_clamp (by omega)]; exact hrw_hd hr)
      subst e10
      refine wmX6_divide (Nat.le_refl K) (fun u' q => ?_) (hdv_8 (hpx_divide (Q := fun u' => hpK u' = hpK u ∧ hpX u' c (hq_free P f) G) hX hc hf (hp f hf) (by omega) (fun t' k x => ⟨k, x⟩)))
      obtain ⟨⟨k1, x1⟩, r1⟩ := q
      intro v12 e12
      refine ih r (i + 2) K _ _ u' (by omega) (by omega) (hrw_tl (hrw_tl hr)) (fun y q => hy y (List.mem_cons_of_mem f (List.mem_cons_of_mem p q))) (hdv_or hp) (by omega) e3 (by show v12 = _; rw [e12]; exact hz_inc2 i) x1 (r1.trans hR) (fun K' li' u2 a b d k2 x2 r2 => cont K' li' u2 a b d (k2.trans k1) x2 r2)
/-- the class's second round: PAIRS along the row -/
theorem hpx_tn {tm : XT} {c n M : Nat} {G : Nat → Prop} {lj : Nat → Int64} {R : Nat → Int32} {Q : Int32 → XT → Prop} (hc : c ≤ 60) (ho : ∀ f s, f < c → s < c → hm_face tm f s → f < s) (hn : n ≤ 60) :
    ∀ (N : Nat) (r : List Nat) (i K : Nat) (P li : Nat → Int32) (u : XT), r.length ≤ N → hcm tm c r → r.Nodup → i + r.length = n → hrw R i r → (∀ y, y ∈ r → P y = -1) → r.length + M + 10 ≤ K → li 3 = nI n → li 4 = nI (i + 1) → hpX u c P G → u.2.2.1 8 = R →
      (∀ (K' : Nat) (u' : XT), M ≤ K' → hpK u' = hpK u → hpX u' c (htn P r) G → wqX11_criticalOnes K' u' Q) → wpX11_cancel K 2 u li lj Q := by
  intro N
  have done : ∀ (K : Nat) (P li : Nat → Int32) (u : XT), M + 10 ≤ K → li 3 = nI n → li 4 = nI (n + 1) → hpX u c P G → (∀ (K' : Nat) (u' : XT), M ≤ K' → hpK u' = hpK u → hpX u' c P G → wqX11_criticalOnes K' u' Q) → wpX11_cancel K 2 u li lj Q := by
    intro K P li u hK e3 e4 hX cont
    obtain ⟨K, rfl⟩ : ∃ K', K = K' + 1 := ⟨K - 1, by omega⟩
    show wbX11_cancel_2 (wpX11_cancel K) K u li lj Q
    refine ⟨fun _ => cont K u (by omega) rfl hX, fun x => absurd ?_ x⟩
    rw [e3, e4]; exact nI_le (by omega) (by omega)
  induction N with
  | zero =>
    intro r i K P li u hN hm nd hi hr hp hK e3 e4 hX hR cont
    cases r with
    | nil =>
      have hi : i + 0 = n := hi
      obtain rfl : i = n := by omega
      exact done K P li u (by omega) e3 e4 hX cont
    | cons a r => exact absurd hN (by show ¬ (r.length + 1 ≤ 0); omega)
  | succ N ih =>
    intro r i K P li u hN hm nd hi hr hp hK e3 e4 hX hR cont
    match r, hm with
    | [], _ =>
      have hi : i + 0 = n := hi
      obtain rfl : i = n := by omega
      exact done K P li u (by omega) e3 e4 hX cont
    | a :: f :: r, hm =>
      obtain ⟨ha, hf, fc, hm'⟩ := hm
      have fa : f < a := ho f a hf ha fc
      have len2 : (a :: f :: r).length = r.length + 2 := rfl
      obtain ⟨n1, n2⟩ := List.nodup_cons.mp nd
      obtain ⟨n3, n4⟩ := List.nodup_cons.mp n2
      obtain ⟨K, rfl⟩ : ∃ K', K = K' + 1 := ⟨K - 1, by omega⟩
      show wbX11_cancel_2 (wpX11_cancel K) K u li lj Q
      unfold wbX11_cancel_2
      rw [e3, e4]
      refine ⟨fun x => absurd x (nI_ge (by omega) (by omega)), fun _ => ⟨vp_in_nI (n := i + 1) (by omega) (by decide), fun v15 e15 v16 e16 => ?_⟩⟩
      have e16 : v16 = nI i := by
        rw [e16, ← nI_1 i]
        exact Int32.add_sub_cancel (nI i) 1
      subst e16
      refine ⟨vp_in_nI (n := i) (by omega) (by decide), fun v17 e17 => ?_⟩
      have e15 : v15 = nI f := e15.trans (by rw [hR, nI_clamp (by omega)]; exact hrw_hd (hrw_tl hr))
      have e17 : v17 = nI a := e17.trans (by rw [hR, nI_clamp (by omega)]; exact hrw_hd hr)
      subst e15
      subst e17
      refine wmX6_unite (Nat.le_refl K) (fun u' q => ?_) (hun_8 (hpx_unite (Q := fun u' => hpK u' = hpK u ∧ hpX u' c (hq_two P f a) G) hX hc fa ha (hp f (List.mem_cons_of_mem a List.mem_cons_self)) (hp a List.mem_cons_self) (by omega) (fun t' k x => ⟨k, x⟩)))
      obtain ⟨⟨k1, x1⟩, r1⟩ := q
      intro v19 e19
      refine ih r (i + 2) K _ _ u' (by omega) hm' n4 (by omega) (hrw_tl (hrw_tl hr)) (fun y hy => ?_) (by omega) e3 (by show v19 = _; rw [e19]; exact hz_inc2 (i + 1)) x1 (r1.trans hR) (fun K' u2 b k2 x2 => cont K' u2 b (k2.trans k1) x2)
      have ya : y ≠ a := fun z => n1 (by rw [← z]; exact List.mem_cons_of_mem f hy)
      have yf : y ≠ f := fun z => n3 (by rw [← z]; exact hy)
      show (if y = a then nI f else if y = f then nI a else P y) = -1
      rw [if_neg ya, if_neg yf]
      exact hp y (List.mem_cons_of_mem a (List.mem_cons_of_mem f hy))
