/-! ===== drawn answers alike ===== -/
theorem hmx_do {t : XT} {L : Nat → Int32} {c K : Nat} {Q : Int32 → XT → Prop} (hM : hmE t L c) (hL : hnL L c) (hx : 0 ≤ t.1 8) (hK : 2000 ≤ K) (hQ : ∀ t', hkD t' = hkD t → t'.1 8 = (hdp L c 60 (fun k => ¬ hm_gone t k ≠ 0) (t.1 8) 0).2 → Q (hdp L c 60 (fun k => ¬ hm_gone t k ≠ 0) (t.1 8) 0).1 t') : wqX12_drawnOnce K t Q := by
  have hc := hL.1
  obtain ⟨K, rfl⟩ : ∃ K', K = K' + 1 := ⟨K - 1, by omega⟩
  show wbX12_drawnOnce_0 (wpX12_drawnOnce K) K t (fun _ => 0) (fun _ => 0) Q
  refine hmx_opensAll hM.1 hc (by omega) (fun G hG => ?_)
  have hO : ∀ k, k < c → (G k ≠ 0 ↔ ¬ hm_gone t k ≠ 0) := fun k hk => (hG k hk).trans ⟨fun a b => b a, fun a => Classical.byContradiction a⟩
  have l := hst_le (fun k => ¬ hm_gone t k ≠ 0) c
  exact hmx_od (t := sA (sA t 4 (hq_clr c (t.2.2.1 4))) 9 G) (O := fun k => ¬ hm_gone t k ≠ 0) hM hL hO (by omega) (fun r hr => hmx_do_go (t0 := t) hM hL hQ 60 K _ (t.1 8) 0 _ _ (by omega) rfl hO rfl hx (Nat.le_trans l hc) rfl rfl hr)
theorem hdp_b {L : Nat → Int32} {c : Nat} : ∀ (d : Nat) (O : Nat → Prop) (x : Int32) (n : Nat), ∃ m, m ≤ n + d ∧ (hdp L c d O x (nI n)).1 = nI m := by
  intro d
  induction d with
  | zero => intro O x n; exact ⟨n, Nat.le_refl _, rfl⟩
  | succ d ih =>
    intro O x n
    unfold hdp
    by_cases q : ∃ q : Nat × Nat, hd1 L c O x q.1 q.2
    · rw [@if_pos _ (Classical.propDecidable _) q]
      obtain ⟨m, a, b⟩ := ih _ (hdn x) n
      exact ⟨m, by omega, b⟩
    · rw [@if_neg _ (Classical.propDecidable _) q]
      by_cases r : ∃ j, hd2 L c O x j
      · rw [@if_pos _ (Classical.propDecidable _) r, nI_1 n]
        obtain ⟨m, a, b⟩ := ih _ (hdn x) (n + 1)
        exact ⟨m, by omega, b⟩
      · rw [@if_neg _ (Classical.propDecidable _) r]; exact ⟨n, by omega, rfl⟩
noncomputable def hdf (L : Nat → Int32) (c : Nat) (O : Nat → Prop) : Nat → Int32 → Int32 → Int32 → Int32 → Int32 × Int32 × Int32
  | 0, f, o, m, _ => (f, o, m)
  | n + 1, f, o, m, x => hdf L c O n (if (hdp L c 60 O x 0).1 < f then (hdp L c 60 O x 0).1 else f) (if (hdp L c 60 O x 0).1 < f then 1 else if (hdp L c 60 O x 0).1 = f then o + 1 else o) (if m < (hdp L c 60 O x 0).1 then (hdp L c 60 O x 0).1 else m) (hdp L c 60 O x 0).2
theorem hdf_64 {L : Nat → Int32} {c n : Nat} {O : Nat → Prop} {x : Int32} : hdf L c O (n + 1) 64 0 0 x = hdf L c O (n + 1) 61 0 0 x := by
  obtain ⟨m, hm, e⟩ := hdp_b (L := L) (c := c) 60 O x 0
  have e : (hdp L c 60 O x 0).1 = nI m := e
  have a : (hdp L c 60 O x 0).1 < 64 := by rw [e]; exact nI_lt (a := m) (b := 64) (by omega) (by omega)
  have b : (hdp L c 60 O x 0).1 < 61 := by rw [e]; exact nI_lt (a := m) (b := 61) (by omega) (by omega)
  unfold hdf
  rw [if_pos a, if_pos b, if_pos a, if_pos b]
def hda (w : Int32) (q : Int32 × Int32 × Int32) : Int32 := if w = 0 then q.1 else if w = 1 then q.2.1 else q.2.2
theorem hpx_dr_go {t0 : XT} {L P : Nat → Int32} {G : Nat → Prop} {c M : Nat} {w x0 : Int32} {F : Int32 × Int32 × Int32} {lj : Nat → Int64} {Q : Int32 → XT → Prop} (hE0 : hcE t0 L c) (hL : hnL L c) (hX0 : hpX t0 c P G) (hM : M ≤ 40) (hQ : ∀ t', hpN t' = hpN t0 → t'.1 0 = x0 → Q (hda w F) t') :
    ∀ (d i K : Nat) (f o m x : Int32) (t : XT) (li : Nat → Int32), i + d = M → 4 * d + 2000 ≤ K → hpN t = hpN t0 → t.1 0 = x → 0 ≤ x → hdf L c (fun k => ¬ G k) d f o m x = F → li 1 = nI M → li 2 = w → li 3 = x0 → li 4 = f → li 5 = o → li 6 = m → li 7 = nI i → wpX11_drawn K 2 t li lj Q := by
  have hc := hL.1
  intro d
  induction d with
  | zero =>
    intro i K f o m x t li hd hK hn ex hx hF e1 e2 e3 e4 e5 e6 e7
    obtain ⟨K, rfl⟩ : ∃ K', K = K' + 1 := ⟨K - 1, by omega⟩
    obtain rfl : i = M := by omega
    have hF : (f, o, m) = F := hF
    subst hF
    show wbX11_drawn_2 (wpX11_drawn K) K t li lj Q
    refine ⟨fun _ t7 e => ?_, fun z => absurd (show li 1 ≤ li 7 by rw [e1, e7]; exact nI_le (by omega) (by omega)) z⟩
    have e : t7 = sI t 0 x0 := by rw [e, e3]
    rw [e]
    have q := hQ (sI t 0 x0) hn rfl
    unfold hda at q
    rw [e2, e4, e5, e6]
    refine ⟨fun n0 => ⟨fun n1 => ?_, fun y1 => ?_⟩, fun y0 => ?_⟩
    · rw [if_neg n0, if_neg n1] at q; exact q
    · rw [if_neg n0, if_pos y1] at q; exact q
    · rw [if_pos y0] at q; exact q
  | succ d ih =>
    intro i K f o m x t li hd hK hn ex hx hF e1 e2 e3 e4 e5 e6 e7
    obtain ⟨K, rfl⟩ : ∃ K', K = K' + 3 := ⟨K - 3, by omega⟩
    have hE := hcE_K (congrArg (fun q => q.1) hn) hE0
    have nx : ∀ (f' o' m' x' : Int32) (t' : XT) (li' : Nat → Int32), hpN t' = hpN t0 → t'.1 0 = x' → 0 ≤ x' → hdf L c (fun k => ¬ G k) d f' o' m' x' = F → li' 1 = nI M → li' 2 = w → li' 3 = x0 → li' 4 = f' → li' 5 = o' → li' 6 = m' → li' 7 = nI i → wpX11_drawn (K + 1) 4 t' li' lj Q := by
      intro f' o' m' x' t' li' b1 b2 b3 b4 a1 a2 a3 a4 a5 a6 a7
      show wbX11_drawn_4 (wpX11_drawn K) K t' li' lj Q
      intro v e
      exact ih (i + 1) K f' o' m' x' t' _ (by omega) (by omega) b1 b2 b3 b4 a1 a2 a3 a4 a5 a6 (by show v = _; rw [e, a7]; exact hs_inc i)
    show wbX11_drawn_2 (wpX11_drawn (K + 2)) (K + 2) t li lj Q
    refine ⟨fun z => absurd (show nI M ≤ nI i by rw [← e1, ← e7]; exact z) (nI_ge (by omega) (by omega)), fun _ => ?_⟩
    refine hpx_pd hE hL (hpX_N hn hX0) (by rw [ex]; exact hx) (by omega) (fun t10 n10 x10 => ?_)
    rw [ex] at x10 ⊢
    have xn := hdp_x (L := L) (c := c) 60 (fun k => ¬ G k) x 0 hx
    obtain ⟨r, hr⟩ : ∃ r, r = (hdp L c 60 (fun k => ¬ G k) x 0).1 := ⟨_, rfl⟩
    obtain ⟨x', hx'⟩ : ∃ x', x' = (hdp L c 60 (fun k => ¬ G k) x 0).2 := ⟨_, rfl⟩
    have hF : hdf L c (fun k => ¬ G k) d (if (hdp L c 60 (fun k => ¬ G k) x 0).1 < f then (hdp L c 60 (fun k => ¬ G k) x 0).1 else f) (if (hdp L c 60 (fun k => ¬ G k) x 0).1 < f then 1 else if (hdp L c 60 (fun k => ¬ G k) x 0).1 = f then o + 1 else o) (if m < (hdp L c 60 (fun k => ¬ G k) x 0).1 then (hdp L c 60 (fun k => ¬ G k) x 0).1 else m) (hdp L c 60 (fun k => ¬ G k) x 0).2 = F := hF
    rw [← hr, ← hx'] at hF
    rw [← hx'] at x10 xn
    rw [← hr]
    have n10' := n10.trans hn
    intro v11 e11
    rw [e6] at e11
    refine ⟨fun le => ?_, fun nle => ?_⟩
    · have le : f ≤ r := by rw [← e4]; exact le
      have nlt : ¬ r < f := Int32.not_lt.mpr le
      rw [if_neg nlt, if_neg nlt] at hF
      show wbX11_drawn_3 (wpX11_drawn (K + 1)) (K + 1) t10 (uI (uI li 6 v11) 8 r) lj Q
      refine ⟨fun ne => ?_, fun eq v14 e14 => ?_⟩
      · have ne : ¬ r = f := fun z => ne (z.trans e4.symm)
        rw [if_neg ne] at hF
        exact nx f o _ x' t10 _ n10' x10 xn hF e1 e2 e3 e4 e5 e11 e7
      · have eq : r = f := Eq.trans eq e4
        rw [if_pos eq] at hF
        exact nx f (o + 1) _ x' t10 _ n10' x10 xn hF e1 e2 e3 e4 (by show v14 = _; rw [e14]; exact congrArg (· + (1 : Int32)) e5) e11 e7
    · have lt : r < f := Int32.not_le.mp (by rw [← e4]; exact nle)
      rw [if_pos lt, if_pos lt] at hF
      show wbX11_drawn_3 (wpX11_drawn (K + 1)) (K + 1) t10 (uI (uI (uI (uI li 4 r) 5 0) 6 v11) 8 r) lj Q
      refine ⟨fun ne => absurd rfl ne, fun _ v14 e14 => ?_⟩
      exact nx r 1 _ x' t10 _ n10' x10 xn hF e1 e2 e3 rfl (by show v14 = _; rw [e14]; rfl) e11 e7
theorem hmx_back {m : Nat} {w : Int32} {F : Int32 × Int32 × Int32} {lj : Nat → Int64} {Q : Int32 → XT → Prop} (hm60 : m ≤ 60) {t : XT} (hm : t.1 3 = nI m)
    (hQ : ∀ P, (∀ k, k < m → P k = t.2.2.1 13 k) → Q (hda w F) (sA t 4 P)) :
    ∀ (d c K : Nat) (li P : Nat → Int32), c + d = m → d + 2 ≤ K → li 2 = w → li 4 = F.1 → li 5 = F.2.1 → li 6 = F.2.2 → li 7 = nI c → (∀ k, k < c → P k = t.2.2.1 13 k) → wpX12_drawn K 5 (sA t 4 P) li lj Q := by
  intro d
  induction d with
  | zero =>
    intro c K li P hd hK e2 e4 e5 e6 e7 hP
    obtain ⟨K, rfl⟩ : ∃ K', K = K' + 1 := ⟨K - 1, by omega⟩
    obtain rfl : c = m := by omega
    show wbX12_drawn_5 (wpX12_drawn K) K (sA t 4 P) li lj Q
    have q := hQ P hP
    unfold hda at q
    unfold wbX12_drawn_5
    rw [e2, e4, e5, e6]
    refine ⟨fun _ => ⟨fun n0 => ⟨fun n1 => ?_, fun y1 => ?_⟩, fun y0 => ?_⟩, fun x => absurd (show t.1 3 ≤ li 7 by rw [hm, e7]; exact nI_le (by omega) (by omega)) x⟩
    · rw [if_neg n0, if_neg n1] at q; exact q
    · rw [if_neg n0, if_pos y1] at q; exact q
    · rw [if_pos y0] at q; exact q
  | succ d ih =>
    intro c K li P hd hK e2 e4 e5 e6 e7 hP
    obtain ⟨K, rfl⟩ : ∃ K', K = K' + 1 := ⟨K - 1, by omega⟩
    have cc : (nI c).toNatClampNeg = c := nI_clamp (by omega)
    show wbX12_drawn_5 (wpX12_drawn K) K (sA t 4 P) li lj Q
    unfold wbX12_drawn_5
    rw [e7]
    refine ⟨fun x => absurd (show t.1 3 ≤ nI c from x) (by rw [hm]; exact nI_ge (by omega) (by omega)), fun _ => ⟨vp_in_nI (n := c) (by omega) (by decide), fun v22 e22 => ⟨vp_in_nI (n := c) (by omega) (by decide), fun t23 e23 v24 e24 => ?_⟩⟩⟩
    rw [cc] at e22
    rw [cc, hm_sAA] at e23
    rw [e23]
    refine ih (c + 1) K _ _ (by omega) (by omega) e2 e4 e5 e6 (e24.trans (hs_inc c)) (fun k hk => ?_)
    by_cases x : k = c
    · exact (if_pos x).trans (e22.trans (congrArg (t.2.2.1 13) x.symm))
    · exact (if_neg x).trans (hP k (by omega))
theorem hmx_dr_go {t0 : XT} {L : Nat → Int32} {c M : Nat} {w x0 : Int32} {F : Int32 × Int32 × Int32} {lj : Nat → Int64} {Q : Int32 → XT → Prop} (hM0 : hmE t0 L c) (hL : hnL L c) (hM : M ≤ 40) (hQ : ∀ t' P, hkD t' = hkD t0 → t'.1 8 = x0 → (∀ k, k < c → P k = t0.2.2.1 13 k) → Q (hda w F) (sA t' 4 P)) :
    ∀ (d i K : Nat) (f o m x : Int32) (t : XT) (li : Nat → Int32), i + d = M → 4 * d + 3000 ≤ K → hkD t = hkD t0 → t.1 8 = x → 0 ≤ x → hdf L c (fun k => ¬ hm_gone t0 k ≠ 0) d f o m x = F → li 1 = nI M → li 2 = w → li 3 = x0 → li 4 = f → li 5 = o → li 6 = m → li 7 = nI i → wpX12_drawn K 3 t li lj Q := by
  have hc := hL.1
  intro d
  induction d with
  | zero =>
    intro i K f o m x t li hd hK hn ex hx hF e1 e2 e3 e4 e5 e6 e7
    obtain ⟨K, rfl⟩ : ∃ K', K = K' + 1 := ⟨K - 1, by omega⟩
    obtain rfl : i = M := by omega
    have hF : (f, o, m) = F := hF
    subst hF
    show wbX12_drawn_3 (wpX12_drawn K) K t li lj Q
    refine ⟨fun _ t11 e => ?_, fun z => absurd (show li 1 ≤ li 7 by rw [e1, e7]; exact nI_le (by omega) (by omega)) z⟩
    have e : t11 = sI t 8 x0 := by rw [e, e3]
    rw [e]
    have hm3 : (sI t 8 x0).1 3 = nI c := (hmE_D hn hM0).1
    have r13 : t.2.2.1 13 = t0.2.2.1 13 := congrArg (fun q => q.2.2.1) hn
    have g := hmx_back (lj := lj) (w := w) (F := (f, o, m)) (Q := Q) hc (t := sI t 8 x0) hm3 (fun P hP => hQ _ P hn rfl (fun k hk => (hP k hk).trans (congrFun r13 k))) c 0 K (uI li 7 0) ((sI t 8 x0).2.2.1 4) (by omega) (by omega) e2 e4 e5 e6 rfl (fun k hk => absurd hk (by omega))
    rw [hm_sA0] at g
    exact g
  | succ d ih =>
    intro i K f o m x t li hd hK hn ex hx hF e1 e2 e3 e4 e5 e6 e7
    obtain ⟨K, rfl⟩ : ∃ K', K = K' + 2 := ⟨K - 2, by omega⟩
    have hMt := hmE_D hn hM0
    have gg : hm_gone t = hm_gone t0 := congrArg (fun q => q.2.1.2.2.1) hn
    have xn := hdp_x (L := L) (c := c) 60 (fun k => ¬ hm_gone t0 k ≠ 0) x 0 hx
    show wbX12_drawn_3 (wpX12_drawn (K + 1)) (K + 1) t li lj Q
    refine ⟨fun z => absurd (show nI M ≤ nI i by rw [← e1, ← e7]; exact z) (nI_ge (by omega) (by omega)), fun _ => ?_⟩
    refine hmx_do hMt hL (by rw [ex]; exact hx) (by omega) (fun t10 n10 x10 => ?_)
    rw [ex, gg] at x10 ⊢
    obtain ⟨r, hr⟩ : ∃ r, r = (hdp L c 60 (fun k => ¬ hm_gone t0 k ≠ 0) x 0).1 := ⟨_, rfl⟩
    obtain ⟨x', hx'⟩ : ∃ x', x' = (hdp L c 60 (fun k => ¬ hm_gone t0 k ≠ 0) x 0).2 := ⟨_, rfl⟩
    have hF : hdf L c (fun k => ¬ hm_gone t0 k ≠ 0) d (if (hdp L c 60 (fun k => ¬ hm_gone t0 k ≠ 0) x 0).1 < f then (hdp L c 60 (fun k => ¬ hm_gone t0 k ≠ 0) x 0).1 else f) (if (hdp L c 60 (fun k => ¬ hm_gone t0 k ≠ 0) x 0).1 < f then 1 else if (hdp L c 60 (fun k => ¬ hm_gone t0 k ≠ 0) x 0).1 = f then o + 1 else o) (if m < (hdp L c 60 (fun k => ¬ hm_gone t0 k ≠ 0) x 0).1 then (hdp L c 60 (fun k => ¬ hm_gone t0 k ≠ 0) x 0).1 else m) (hdp L c 60 (fun k => ¬ hm_gone t0 k ≠ 0) x 0).2 = F := hF
    rw [← hr, ← hx'] at hF
    rw [← hx'] at x10 xn
    rw [← hr]
    have n10' := n10.trans hn
    have nx : ∀ (o' : Int32), hdf L c (fun k => ¬ hm_gone t0 k ≠ 0) d (if r < f then r else f) o' (if m < r then r else m) x' = F → wpX12_drawn (K + 1) 4 t10 (uI (uI li 8 r) 100 o') lj Q := by
      intro o' hF'
      show wbX12_drawn_4 (wpX12_drawn K) K t10 (uI (uI li 8 r) 100 o') lj Q
      intro v16 e16 v17 e17 v18 e18
      have e16 : v16 = if r < f then r else f := by rw [← e4]; exact e16
      have e17 : v17 = if m < r then r else m := by rw [← e6]; exact e17
      exact ih (i + 1) K _ _ _ x' t10 _ (by omega) (by omega) n10' x10 xn hF' e1 e2 e3 e16 rfl e17 (by show v18 = _; rw [e18]; exact (congrArg (· + Int32.ofInt 1) e7).trans (hs_inc i))
    refine ⟨fun le => ?_, fun nle => ?_⟩
    · have le : f ≤ r := by rw [← e4]; exact le
      have nlt : ¬ r < f := Int32.not_lt.mpr le
      refine ⟨fun ne => ?_, fun eq v15 e15 => ?_⟩
      · have ne : ¬ r = f := fun z => ne (z.trans e4.symm)
        rw [e5]
        refine nx o ?_
        rw [if_neg nlt, if_neg nlt, if_neg ne] at hF
        rw [if_neg nlt]
        exact hF
      · have eq : r = f := eq.trans e4
        have e15 : v15 = o + 1 := by rw [e15, e5]
        rw [e15]
        refine nx (o + 1) ?_
        rw [if_neg nlt, if_neg nlt, if_pos eq] at hF
        rw [if_neg nlt]
        exact hF
    · have lt : r < f := Int32.not_le.mp (by rw [← e4]; exact nle)
      refine nx 1 ?_
      rw [if_pos lt, if_pos lt] at hF
      rw [if_pos lt]
      exact hF
theorem hmx_save_go {t : XT} {L : Nat → Int32} {c M : Nat} {lj : Nat → Int64} {w w2 : Int32} {Q : Int32 → XT → Prop} (hM : hmE t L c) (hL : hnL L c)
    (cont : ∀ (K' : Nat) (S li' : Nat → Int32), M ≤ K' → (∀ k, k < c → S k = t.2.2.1 4 k) → li' 1 = w → li' 2 = w2 → wpX12_drawn K' 3 (sA t 13 S) (uI (uI (uI (uI (uI li' 3 (t.1 8)) 4 61) 5 0) 6 0) 7 0) lj Q) :
    ∀ (d i K : Nat) (S li : Nat → Int32), i + d = c → d + M + 1 ≤ K → li 1 = w → li 2 = w2 → li 3 = nI i → (∀ k, k < i → S k = t.2.2.1 4 k) → wpX12_drawn K 2 (sA t 13 S) li lj Q := by
  have hc := hL.1
  intro d
  induction d with
  | zero =>
    intro i K S li hd hK e1 e2 e3 hS
    obtain ⟨K, rfl⟩ : ∃ K', K = K' + 1 := ⟨K - 1, by omega⟩
    obtain rfl : i = c := by omega
    show wbX12_drawn_2 (wpX12_drawn K) K (sA t 13 S) li lj Q
    exact ⟨fun _ => cont K S li (by omega) hS e1 e2, fun x => absurd (show t.1 3 ≤ li 3 by rw [hM.1, e3]; exact nI_le (by omega) (by omega)) x⟩
  | succ d ih =>
    intro i K S li hd hK e1 e2 e3 hS
    obtain ⟨K, rfl⟩ : ∃ K', K = K' + 1 := ⟨K - 1, by omega⟩
    have cc : (nI i).toNatClampNeg = i := nI_clamp (by omega)
    show wbX12_drawn_2 (wpX12_drawn K) K (sA t 13 S) li lj Q
    unfold wbX12_drawn_2
    rw [e3]
    refine ⟨fun x => absurd (show t.1 3 ≤ nI i from x) (by rw [hM.1]; exact nI_ge (by omega) (by omega)), fun _ => ⟨vp_in_nI (n := i) (by omega) (by decide), fun v7 e7 => ⟨vp_in_nI (n := i) (by omega) (by decide), fun t8 e8 v9 e9 => ?_⟩⟩⟩
    rw [cc] at e7
    rw [cc, hm_sAA] at e8
    rw [e8]
    refine ih (i + 1) K _ _ (by omega) (by omega) e1 e2 (e9.trans (hs_inc i)) (fun k hk => ?_)
    by_cases x : k = i
    · exact (if_pos x).trans (e7.trans (congrArg (t.2.2.1 4) x.symm))
    · exact (if_neg x).trans (hS k (by omega))
