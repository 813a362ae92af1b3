/-! ===== reference, pure: numbers to its end, complex: the invariant is laid ===== -/
theorem hq_n53 (T : XT) (C C' P G : Nat → Int32) : sA (sA (sA (sA T 3 C) 4 P) 5 G) 3 C' = sA (sA (sA T 3 C') 4 P) 5 G := by
  unfold sA uI
  refine Prod.ext rfl (Prod.ext rfl (Prod.ext ?_ rfl))
  funext j
  show cond (Nat.beq j 3) C' (cond (Nat.beq j 5) G (cond (Nat.beq j 4) P (cond (Nat.beq j 3) C (T.2.2.1 j)))) = cond (Nat.beq j 5) G (cond (Nat.beq j 4) P (cond (Nat.beq j 3) C' (T.2.2.1 j)))
  cases h3 : Nat.beq j 3 with
  | false => rfl
  | true => rw [Nat.eq_of_beq_eq_true h3]; rfl
theorem hq_n54 (T : XT) (P P' G : Nat → Int32) : sA (sA (sA T 4 P) 5 G) 4 P' = sA (sA T 4 P') 5 G := hq_com5 T P G P'
def hq_pop (a : Nat) : Nat := a % 2 + a / 2 % 2 + a / 4 % 2 + a / 8 % 2 + a / 16 % 2 + a / 32 % 2 + a / 64 % 2 + a / 128 % 2
theorem hq_Zpop0 : hq_allB (fun a => hq_Z a == hq_pop a) 256 = true := by decide +kernel
theorem hq_Zpop {a : Nat} (h : a < 256) : hq_Z a = hq_pop a := by
  have k : (hq_Z a == hq_pop a) = true := hq_allB_at 256 hq_Zpop0 a h
  exact eq_of_beq k
def hq_zB (a b : Nat) : Bool := if b &&& a = b then Nat.ble (hq_pop b) (hq_pop a) else true
theorem hq_zK : hq_allB (fun a => hq_allB (hq_zB a) 256) 256 = true := by decide +kernel
theorem hq_Zmono {a b : Nat} (ha : a < 256) (hb : b < 256) (h : b &&& a = b) : hq_Z b ≤ hq_Z a := by
  have k : hq_allB (hq_zB a) 256 = true := hq_allB_at 256 hq_zK a ha
  have k2 := hq_allB_at 256 k b hb
  unfold hq_zB at k2
  rw [if_pos h] at k2
  rw [hq_Zpop ha, hq_Zpop hb]
  exact Nat.le_of_ble_eq_true k2
theorem hq_num4 {T : XT} {lj : Nat → Int64} {Q : XT → Prop} (M : Nat)
    (cont : ∀ (K' : Nat) (C li' : Nat → Int32), M ≤ K' → li' 1 = nI 0 → (∀ a, a < 256 → C a = -1) → wpX12_numbers K' 5 (sA T 3 C) li' lj Q) :
    ∀ (d i K : Nat) (C li : Nat → Int32), i + d = 256 → d + M + 1 ≤ K → li 1 = nI i → (∀ a, a < i → C a = -1) → wpX12_numbers K 4 (sA T 3 C) li lj Q := by
  intro d
  induction d with
  | zero =>
    intro i K C li hd hK e1 hC
    obtain ⟨K, rfl⟩ : ∃ K', K = K' + 1 := ⟨K - 1, by omega⟩
    obtain rfl : i = 256 := by omega
    show wbX12_numbers_4 (wpX12_numbers K) K (sA T 3 C) li lj Q
    exact ⟨fun _ => cont K C _ (by omega) rfl hC, fun x => absurd (show nI 256 ≤ li 1 by rw [e1]; exact nI_le (by omega) (by omega)) x⟩
  | succ d ih =>
    intro i K C li hd hK e1 hC
    obtain ⟨K, rfl⟩ : ∃ K', K = K' + 1 := ⟨K - 1, by omega⟩
    have ci : (nI i).toNatClampNeg = i := nI_clamp (by omega)
    show wbX12_numbers_4 (wpX12_numbers K) K (sA T 3 C) li lj Q
    unfold wbX12_numbers_4
    rw [e1]
    refine ⟨fun x => absurd (show nI 256 ≤ nI i from x) (nI_ge (by omega) (by omega)), fun _ => ⟨vp_in_nI (by omega) (by decide), fun t14 e14 v15 e15 => ?_⟩⟩
    rw [ci, hm_sAA] at e14
    have e14 : t14 = sA T 3 (upd C i (-1)) := e14
    rw [e14]
    refine ih (i + 1) K _ _ (by omega) (by omega) (e15.trans (hs_inc i)) (fun a ha => ?_)
    by_cases x : a = i
    · exact if_pos x
    · exact (if_neg x).trans (hC a (by omega))
def hq_C5 (c i : Nat) (L C P G : Nat → Int32) : Prop := (∀ a, a < 256 → C a = -1 ∨ ∃ k, k < c ∧ C a = nI k ∧ L k = nI a) ∧ (∀ k x, k < i → x < 256 → L k = nI x → ∃ k', k' < c ∧ C x = nI k' ∧ L k' = nI x) ∧ (∀ k, k < i → P k = -1) ∧ (∀ k, k < i → G k = 0)
theorem hq_num5 {T : XT} {c : Nat} {L : Nat → Int32} {lj : Nat → Int64} {Q : XT → Prop} (hc : T.1 3 = nI c) (hc60 : c ≤ 60) (hL : T.2.2.1 2 = L) (hx : ∀ k, k < c → ∃ x, x < 256 ∧ L k = nI x) (M : Nat)
    (cont : ∀ (K' : Nat) (C P G li' : Nat → Int32), M ≤ K' → li' 1 = nI 0 → hq_C5 c c L C P G → wpX12_numbers K' 6 (sA (sA (sA T 3 C) 4 P) 5 G) li' lj Q) :
    ∀ (d i K : Nat) (C P G li : Nat → Int32), i + d = c → d + M + 1 ≤ K → li 1 = nI i → hq_C5 c i L C P G → wpX12_numbers K 5 (sA (sA (sA T 3 C) 4 P) 5 G) li lj Q := by
  intro d
  induction d with
  | zero =>
    intro i K C P G li hd hK e1 h5
    obtain ⟨K, rfl⟩ : ∃ K', K = K' + 1 := ⟨K - 1, by omega⟩
    obtain rfl : i = c := by omega
    show wbX12_numbers_5 (wpX12_numbers K) K (sA (sA (sA T 3 C) 4 P) 5 G) li lj Q
    exact ⟨fun _ => cont K C P G _ (by omega) rfl h5, fun x => absurd (show T.1 3 ≤ li 1 by rw [hc, e1]; exact nI_le (by omega) (by omega)) x⟩
  | succ d ih =>
    intro i K C P G li hd hK e1 h5
    obtain ⟨K, rfl⟩ : ∃ K', K = K' + 1 := ⟨K - 1, by omega⟩
    have ci : (nI i).toNatClampNeg = i := nI_clamp (by omega)
    obtain ⟨x, x1, x2⟩ := hx i (by omega)
    have cx : (nI x).toNatClampNeg = x := nI_clamp (by omega)
    show wbX12_numbers_5 (wpX12_numbers K) K (sA (sA (sA T 3 C) 4 P) 5 G) li lj Q
    unfold wbX12_numbers_5
    rw [e1]
    refine ⟨fun y => absurd (show T.1 3 ≤ nI i from y) (by rw [hc]; exact nI_ge (by omega) (by omega)), fun _ => ⟨vp_in_nI (by omega) (by decide), fun v17 e17 => ?_⟩⟩
    have e17 : v17 = nI x := by
      rw [e17, ci]
      show T.2.2.1 2 i = _
      rw [hL]; exact x2
    subst e17
    refine ⟨vp_in_nI x1 (by decide), fun t18 e18 => ⟨vp_in_nI (by omega) (by decide), fun t19 e19 => ⟨vp_in_nI (by omega) (by decide), fun t20 e20 v21 e21 => ?_⟩⟩⟩
    rw [cx, hq_n53] at e18
    have e18 : t18 = sA (sA (sA T 3 (upd C x (nI i))) 4 P) 5 G := e18
    rw [ci, e18, hq_n54] at e19
    have e19 : t19 = sA (sA (sA T 3 (upd C x (nI i))) 4 (upd P i (-1))) 5 G := e19
    rw [ci, e19, hm_sAA] at e20
    have e20 : t20 = sA (sA (sA T 3 (upd C x (nI i))) 4 (upd P i (-1))) 5 (upd G i 0) := e20
    rw [e20]
    obtain ⟨a1, a2, a3, a4⟩ := h5
    refine ih (i + 1) K _ _ _ _ (by omega) (by omega) (e21.trans (hs_inc i)) ⟨fun a ha => ?_, fun k y hk hy ek => ?_, fun k hk => ?_, fun k hk => ?_⟩
    · by_cases z : a = x
      · exact Or.inr ⟨i, by omega, if_pos z, by rw [z]; exact x2⟩
      · rw [show upd C x (nI i) a = C a from if_neg z]; exact a1 a ha
    · by_cases z : y = x
      · exact ⟨i, by omega, if_pos z, by rw [z]; exact x2⟩
      · rw [show upd C x (nI i) y = C y from if_neg z]
        refine a2 k y ?_ hy ek
        refine Nat.lt_of_le_of_ne (by omega) (fun q => z ?_)
        rw [q] at ek
        exact ((nI_eq (by omega) (by omega)).mp (ek.symm.trans x2))
    · by_cases z : k = i
      · exact if_pos z
      · exact (if_neg z).trans (a3 k (by omega))
    · by_cases z : k = i
      · exact if_pos z
      · exact (if_neg z).trans (a4 k (by omega))
theorem hq_num6 {U : XT} {lj : Nat → Int64} {Q : XT → Prop} (hQ : ∀ H, Q (sI (sA U 14 H) 4 0)) :
    ∀ (d i K : Nat) (H li : Nat → Int32), i + d = 3 → d + 1 ≤ K → li 1 = nI i → wpX12_numbers K 6 (sA U 14 H) li lj Q := by
  intro d
  induction d with
  | zero =>
    intro i K H li hd hK e1
    obtain ⟨K, rfl⟩ : ∃ K', K = K' + 1 := ⟨K - 1, by omega⟩
    obtain rfl : i = 3 := by omega
    show wbX12_numbers_6 (wpX12_numbers K) K (sA U 14 H) li lj Q
    exact ⟨fun _ t23 e23 => by rw [e23]; exact hQ H, fun x => absurd (show nI 3 ≤ li 1 by rw [e1]; exact nI_le (by omega) (by omega)) x⟩
  | succ d ih =>
    intro i K H li hd hK e1
    obtain ⟨K, rfl⟩ : ∃ K', K = K' + 1 := ⟨K - 1, by omega⟩
    show wbX12_numbers_6 (wpX12_numbers K) K (sA U 14 H) li lj Q
    unfold wbX12_numbers_6
    rw [e1]
    refine ⟨fun x => absurd (show nI 3 ≤ nI i from x) (nI_ge (by omega) (by omega)), fun _ => ⟨vp_in_nI (by omega) (by decide), fun t24 e24 v25 e25 => ?_⟩⟩
    rw [hm_sAA] at e24
    rw [e24]
    exact ih (i + 1) K _ _ (by omega) (by omega) (e25.trans (hs_inc i))
theorem hq_numbers {t : XT} {B : Nat → Int32} {K : Nat} {Q : XT → Prop} (hB : t.2.2.1 1 = B) (hcl : hq_cl B) (hN : hq_N B 255 ≤ 60) (hK : 6000 ≤ K)
    (hQ : ∀ t' m', t'.1 0 = t.1 0 → t'.1 8 = t.1 8 → hq_inv t' m' 0 → hq_geo t' m' → Q t') : wqX12_numbers K t Q := by
  obtain ⟨K, rfl⟩ : ∃ K', K = K' + 1 := ⟨K - 1, by omega⟩
  show wbX12_numbers_0 (wpX12_numbers K) K t (fun _ => 0) (fun _ => 0) Q
  intro t1 e1
  have e1 : t1 = hq_nm t (t.2.2.1 2) 0 := by
    rw [e1]
    show sI t 3 0 = sI (sA t 2 (t.2.2.1 2)) 3 (nI 0)
    rw [hm_sA0]; rfl
  rw [e1]
  obtain ⟨M, hM⟩ : ∃ M, M = 500 := ⟨_, rfl⟩
  refine hq_num_out hB hN M (by omega) (fun K' c L li' h1 b1 hJ => ?_) 5 1 K 0 _ _ (by omega) (by omega) (by omega) rfl ⟨hq_c_0.symm, fun k hk => absurd hk (by omega), fun j k x y jk hk => absurd hk (by omega), fun x x0 x1 bx bf => ?_⟩
  · have c60 : c ≤ 60 := by
      have := hq_c_le (B := B) (s := 6) (a := 1)
      rw [← hJ.1] at this
      omega
    obtain ⟨M2, hM2⟩ : ∃ M2, M2 = 100 := ⟨_, rfl⟩
    have g := hq_num4 (T := hq_nm t L c) (lj := fun _ => 0) (Q := Q) M2 (fun K2 C li2 h2 b2 hC => ?_) 256 0 K' ((hq_nm t L c).2.2.1 3) li' (by omega) (by omega) b1 (fun a ha => absurd ha (by omega))
    · rw [hm_sA0] at g
      exact g
    · have g2 := hq_num5 (T := hq_nm t L c) (c := c) (L := L) (lj := fun _ => 0) (Q := Q) rfl c60 rfl (fun k hk => by obtain ⟨x, _, a2, a3, _⟩ := hJ.2.1 k hk; exact ⟨x, a2, a3⟩) 20 (fun K3 C3 P3 G3 li3 h3 b3 h5 => ?_) c 0 K2 C ((hq_nm t L c).2.2.1 4) ((hq_nm t L c).2.2.1 5) li2 (by omega) (by omega) b2 ⟨fun a ha => Or.inl (hC a ha), fun k x hk => absurd hk (by omega), fun k hk => absurd hk (by omega), fun k hk => absurd hk (by omega)⟩
      · have z1 : sA (sA (hq_nm t L c) 3 C) 4 ((hq_nm t L c).2.2.1 4) = sA (hq_nm t L c) 3 C := hm_sA0 (sA (hq_nm t L c) 3 C) 4
        have z2 : sA (sA (hq_nm t L c) 3 C) 5 ((hq_nm t L c).2.2.1 5) = sA (hq_nm t L c) 3 C := hm_sA0 (sA (hq_nm t L c) 3 C) 5
        rw [z1, z2] at g2
        exact g2
      · have g3 := hq_num6 (U := sA (sA (sA (hq_nm t L c) 3 C3) 4 P3) 5 G3) (lj := fun _ => 0) (Q := Q) (fun H => ?_) 3 0 K3 ((sA (sA (sA (hq_nm t L c) 3 C3) 4 P3) 5 G3).2.2.1 14) li3 (by omega) (by omega) b3
        · rw [hm_sA0] at g3
          exact g3
        · obtain ⟨T, eT⟩ : ∃ T, T = sI (sA (sA (sA (sA (hq_nm t L c) 3 C3) 4 P3) 5 G3) 14 H) 4 0 := ⟨_, rfl⟩
          have lt : ∀ k, hm_let T k = L k := fun k => by rw [eT]; rfl
          have pr : ∀ k, k < c → hm_par T k = -1 := fun k hk => by rw [eT]; exact h5.2.2.1 k hk
          have r3 : ∀ a, T.2.2.1 3 a = C3 a := fun a => by rw [eT]; rfl
          have i3 : T.1 3 = nI c := by rw [eT]; rfl
          have i4 : T.1 4 = nI 0 := by rw [eT]; rfl
          have i0 : T.1 0 = t.1 0 := by rw [eT]; rfl
          have i8 : T.1 8 = t.1 8 := by rw [eT]; rfl
          rw [← eT]
          have nl : ∀ k, k < c → ¬ hm_low T k := fun k hk lo => lo.1 (pr k hk)
          refine hQ T c i0 i8 ⟨i3, c60, fun f s hf hs fc => ?_, fun k hk => Or.inl (pr k hk), ⟨fun _ => 0, fun f hf lo => absurd lo (nl f hf), fun f g hf hg lo => absurd lo (nl f hf)⟩, by omega, i4, fun j hj => absurd hj (by omega), fun k hk q => absurd (pr k hk) q, fun j hj => absurd hj (by omega)⟩ ⟨fun k hk => ?_, fun a ha _ => ?_, fun k a b hk ha ek hb hab => ?_⟩
          · obtain ⟨x, _, x1, x2, _⟩ := hJ.2.1 f hf
            obtain ⟨y, _, y1, y2, _⟩ := hJ.2.1 s hs
            have d := hm_D_face fc
            have dx : hm_D T f = hq_Z x := by unfold hm_D hq_Z; rw [lt f, x2]
            have dy : hm_D T s = hq_Z y := by unfold hm_D hq_Z; rw [lt s, y2]
            rw [dx, dy] at d
            refine Nat.lt_of_not_le (fun le => ?_)
            by_cases z : s = f
            · rw [z] at y2
              have := (nI_eq (by omega) (by omega)).mp (x2.symm.trans y2)
              rw [this] at d
              omega
            · have := hJ.2.2.1 s f y x (by omega) hf y1 x1 y2 x2
              omega
          · obtain ⟨x, x0, x1, x2, _⟩ := hJ.2.1 k hk
            exact ⟨x, x0, x1, (lt k).trans x2⟩
          · rw [r3 a]
            rcases h5.1 a ha with z | ⟨k, k1, k2, k3⟩
            · exact Or.inl z
            · exact Or.inr ⟨k, k1, k2, (lt k).trans k3⟩
          · obtain ⟨x, x0, x1, x2, x3, x4⟩ := hJ.2.1 k hk
            have xa : x = a := (nI_eq (by omega) (by omega)).mp (x2.symm.trans ((lt k).symm.trans ek))
            subst xa
            have le : b ≤ x := by rw [← hab]; exact Nat.and_le_right
            have bb := hcl x b x1 hb hab x3
            have zm := hq_Zmono x1 (show b < 256 by omega) hab
            have z1 : 1 ≤ hq_Z b := by
              refine Nat.pos_of_ne_zero (fun q => hq_bc0 b (by omega) hb ?_)
              rw [(hq_Z_at b).2, q]; rfl
            have zx : hq_Z x < 6 := by
              rcases x4.2 with q | q
              · exact q
              · omega
            obtain ⟨j, j1, j2⟩ := hJ.2.2.2 b hb (by omega) bb ⟨z1, Or.inl (by omega)⟩
            obtain ⟨j', b1, b2, b3⟩ := h5.2.1 j b j1 (by omega) j2
            exact ⟨j', b1, by rw [r3 b]; exact b2, (lt j').trans b3⟩
  · have q := bf.2
    have q1 := bf.1
    omega
theorem hq_cpl_clear {t : XT} {lj : Nat → Int64} {Q : Int32 → XT → Prop} (M : Nat)
    (cont : ∀ (K' : Nat) (B li' : Nat → Int32), M ≤ K' → li' 2 = 1 → (∀ a, a < 256 → B a = 0) → wpX12_complex K' 2 (hq_st t B 0 (-1)) li' lj Q) :
    ∀ (d i K : Nat) (B li : Nat → Int32), i + d = 256 → d + M + 1 ≤ K → li 1 = nI i → (∀ a, a < i → B a = 0) → wpX12_complex K 1 (hq_st t B 0 (-1)) li lj Q := by
  intro d
  induction d with
  | zero =>
    intro i K B li hd hK e1 hB
    obtain ⟨K, rfl⟩ : ∃ K', K = K' + 1 := ⟨K - 1, by omega⟩
    obtain rfl : i = 256 := by omega
    show wbX12_complex_1 (wpX12_complex K) K (hq_st t B 0 (-1)) li lj Q
    exact ⟨fun _ => cont K B _ (by omega) rfl hB, fun x => absurd (show nI 256 ≤ li 1 by rw [e1]; exact nI_le (by omega) (by omega)) x⟩
  | succ d ih =>
    intro i K B li hd hK e1 hB
    obtain ⟨K, rfl⟩ : ∃ K', K = K' + 1 := ⟨K - 1, by omega⟩
    have ci : (nI i).toNatClampNeg = i := nI_clamp (by omega)
    show wbX12_complex_1 (wpX12_complex K) K (hq_st t B 0 (-1)) li lj Q
    unfold wbX12_complex_1
    rw [e1]
    refine ⟨fun x => absurd (show nI 256 ≤ nI i from x) (nI_ge (by omega) (by omega)), fun _ => ⟨vp_in_nI (by omega) (by decide), fun t4 e4 v5 e5 => ?_⟩⟩
    rw [ci, hq_st_B] at e4
    have e4 : t4 = hq_st t (upd B i 0) 0 (-1) := e4
    rw [e4]
    refine ih (i + 1) K _ _ (by omega) (by omega) (e5.trans (hs_inc i)) (fun a ha => ?_)
    by_cases x : a = i
    · exact if_pos x
    · exact (if_neg x).trans (hB a (by omega))
theorem hq_st_0 (t : XT) (B : Nat → Int32) (p : Nat) (v : Int32) : sI (hq_st t B p v) 0 0 = hq_st (sI t 0 0) B p v := by
  unfold hq_st sI sA uI
  refine Prod.ext ?_ rfl
  funext j
  show cond (Nat.beq j 0) 0 (cond (Nat.beq j 2) v (cond (Nat.beq j 1) (nI p) (t.1 j))) = cond (Nat.beq j 2) v (cond (Nat.beq j 1) (nI p) (cond (Nat.beq j 0) 0 (t.1 j)))
  cases h0 : Nat.beq j 0 with
  | false => rfl
  | true => rw [Nat.eq_of_beq_eq_true h0]; rfl
theorem hq_complex {t : XT} {m n z K : Nat} {Q : Int32 → XT → Prop} (hI : hq_inv t m n) (hg : hq_geo t m) (hz : t.1 0 = nI z) (hz160 : z ≤ 160) (hK : 20000 ≤ K)
    (hQ : ∀ r t' m' n', t'.1 0 = 0 → t'.1 8 = t.1 8 → hq_inv t' m' n' → hq_geo t' m' → Q r t') : wqX12_complex K t Q := by
  obtain ⟨K, rfl⟩ : ∃ K', K = K' + 1 := ⟨K - 1, by omega⟩
  have five : ∀ (K2 p : Nat) (B li : Nat → Int32) (v : Int32), 7000 ≤ K2 → hq_cl B → (v = -1 → hq_N B 255 ≤ 60) → wpX12_complex K2 5 (hq_st t B p v) li (fun _ => 0) Q := by
    intro K2 p B li v h1 h2 h3
    obtain ⟨K2, rfl⟩ : ∃ K', K2 = K' + 1 := ⟨K2 - 1, by omega⟩
    show wbX12_complex_5 (wpX12_complex K2) K2 (hq_st t B p v) li (fun _ => 0) Q
    intro t21 e21
    rw [e21, hq_st_0]
    refine hq_isRight (by omega) (fun q => ⟨fun _ => ?_, fun x => absurd x (by decide)⟩) (fun _ => ⟨fun x => absurd rfl x, fun _ v25 _ => ?_⟩)
    · exact hq_numbers (t := hq_st (sI t 0 0) B p v) (B := B) rfl h2 (h3 q) (by omega) (fun t' m' a b c d => hQ _ t' m' 0 a b c d)
    · exact hQ v25 _ m n rfl rfl (hq_frame (t := t) rfl rfl rfl rfl rfl rfl hI) hg
  have off : ∀ (K2 p : Nat) (B li : Nat → Int32) (v : Int32), 7010 ≤ K2 → p ≤ z → hq_cl B → (v = -1 → hq_N B 255 ≤ 60) → li 2 = 0 → wpX12_complex K2 2 (hq_st t B p v) li (fun _ => 0) Q := by
    intro K2 p B li v h1 hp h2 h3 e2
    obtain ⟨K2, rfl⟩ : ∃ K', K2 = K' + 1 := ⟨K2 - 1, by omega⟩
    show wbX12_complex_2 (wpX12_complex K2) K2 (hq_st t B p v) li (fun _ => 0) Q
    refine ⟨fun _ => ?_, fun x => absurd e2 x⟩
    have f5 := five K2 p B li v (by omega) h2 h3
    refine hq_isRight (by omega) (fun _ => ⟨fun x => absurd x (by decide), fun _ => ?_⟩) (fun _ => ⟨fun _ => f5, fun x => absurd rfl x⟩)
    have bad : wqX12_fails K2 (hq_st t B p v) 1 ((hq_st t B p v).1 1) (fun t_11 => wpX12_complex K2 5 t_11 li (fun _ => 0) Q) := hq_fails (kind := 1) (place := p) (by omega) (by omega) (by omega) (fun v' nv => five K2 p B li v' (by omega) h2 (fun q => absurd q nv))
    exact hq_byteNow hz hz160 hp (by omega) (fun _ b _ => ⟨fun _ => f5, fun _ => bad⟩) ⟨fun _ => f5, fun x => absurd rfl x⟩
  have on : ∀ (D d p K2 : Nat) (B li : Nat → Int32) (v : Int32), d ≤ D → p + d = z → 4 * D + 7100 ≤ K2 → hq_cl B → li 2 = 1 → wpX12_complex K2 2 (hq_st t B p v) li (fun _ => 0) Q := by
    intro D
    induction D with
    | zero =>
      intro d p K2 B li v hD hd hK2 hB e2
      obtain ⟨K2, rfl⟩ : ∃ K', K2 = K' + 3 := ⟨K2 - 3, by omega⟩
      show wbX12_complex_2 (wpX12_complex (K2 + 2)) (K2 + 2) (hq_st t B p v) li (fun _ => 0) Q
      refine ⟨fun x => absurd (e2.symm.trans x) (by decide), fun _ => ?_⟩
      refine hq_readsFacet hz hz160 (by omega) hB (by omega) (fun B' p' v' a1 a2 a3 a4 v13 _ => ?_)
      have three : ∀ li' : Nat → Int32, wpX12_complex (K2 + 2) 3 (hq_st t B' p' v') li' (fun _ => 0) Q := by
        intro li'
        show wbX12_complex_4 (wpX12_complex K2) K2 (hq_st t B' p' v') (uI li' 100 0) (fun _ => 0) Q
        refine hm_truth0 (by omega) (fun v19 e19 t20 e20 => ?_)
        have e19 : v19 = nI p' := e19.trans (Int32.add_zero _)
        rw [e20, e19, hq_st_p]
        exact off K2 p' B' _ v' (by omega) a2 a3 a4 rfl
      refine hq_isRight (by omega) (fun _ => ⟨fun x => absurd x (by decide), fun _ => ?_⟩) (fun _ => ⟨fun _ => three _, fun x => absurd rfl x⟩)
      exact hq_byteNow hz hz160 a2 (by omega) (fun lt => absurd lt (by omega)) ⟨fun _ => three _, fun x => absurd x (by decide)⟩
    | succ D ih =>
      intro d p K2 B li v hD hd hK2 hB e2
      obtain ⟨K2, rfl⟩ : ∃ K', K2 = K' + 3 := ⟨K2 - 3, by omega⟩
      show wbX12_complex_2 (wpX12_complex (K2 + 2)) (K2 + 2) (hq_st t B p v) li (fun _ => 0) Q
      refine ⟨fun x => absurd (e2.symm.trans x) (by decide), fun _ => ?_⟩
      refine hq_readsFacet hz hz160 (by omega) hB (by omega) (fun B' p' v' a1 a2 a3 a4 v13 _ => ?_)
      have three : ∀ li' : Nat → Int32, wpX12_complex (K2 + 2) 3 (hq_st t B' p' v') li' (fun _ => 0) Q := by
        intro li'
        show wbX12_complex_4 (wpX12_complex K2) K2 (hq_st t B' p' v') (uI li' 100 0) (fun _ => 0) Q
        refine hm_truth0 (by omega) (fun v19 e19 t20 e20 => ?_)
        have e19 : v19 = nI p' := e19.trans (Int32.add_zero _)
        rw [e20, e19, hq_st_p]
        exact off K2 p' B' _ v' (by omega) a2 a3 a4 rfl
      refine hq_isRight (by omega) (fun _ => ⟨fun x => absurd x (by decide), fun _ => ?_⟩) (fun _ => ⟨fun _ => three _, fun x => absurd rfl x⟩)
      refine hq_byteNow hz hz160 a2 (by omega) (fun lt b _ => ⟨fun _ => three _, fun _ => ?_⟩) ⟨fun _ => three _, fun x => absurd x (by decide)⟩
      show wbX12_complex_4 (wpX12_complex (K2 + 1)) (K2 + 1) (hq_st t B' p' v') (uI (uI li 1 v13) 100 1) (fun _ => 0) Q
      refine hm_truth1 (by omega) (fun v19 e19 t20 e20 => ?_)
      have e19 : v19 = nI (p' + 1) := e19.trans (nI_1 p')
      rw [e20, e19, hq_st_p]
      exact ih (z - (p' + 1)) (p' + 1) (K2 + 1) B' _ v' (by omega) (by omega) (by omega) a3 rfl
  show wbX12_complex_0 (wpX12_complex K) K t (fun _ => 0) (fun _ => 0) Q
  intro t1 e1 t2 e2
  have e2 : t2 = hq_st t (t.2.2.1 1) 0 (-1) := by
    rw [e2, e1]
    show sI (sI t 1 0) 2 (-1) = sI (sI (sA t 1 (t.2.2.1 1)) 1 (nI 0)) 2 (-1)
    rw [hm_sA0]; rfl
  rw [e2]
  obtain ⟨M, hM⟩ : ∃ M, M = 8000 := ⟨_, rfl⟩
  refine hq_cpl_clear M (fun K' B li' h1 b2 hB => ?_) 256 0 K _ _ (by omega) (by omega) rfl (fun a ha => absurd ha (by omega))
  exact on z z 0 K' B li' (-1) (Nat.le_refl _) (by omega) (by omega) (fun a b ha _ _ h => absurd (hB a ha) h) b2
