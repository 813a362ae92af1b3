/-! ===== sign answers alike ===== -/
theorem hcx_has {t : XT} {c K : Nat} {a : Int32} {Q : Int32 → XT → Prop} (e4 : t.1 4 = nI c) (hc : c ≤ 60) (hK : 2 ≤ K) (h1 : ∀ j, j < c → a = nI j → Q 1 t) (h0 : (∀ j, j < c → a ≠ nI j) → Q 0 t) : wqX9_has K t a Q := by
  obtain ⟨K, rfl⟩ : ∃ K', K = K' + 2 := ⟨K - 2, by omega⟩
  show wbX9_has_0 (wpX9_has (K + 1)) (K + 1) t (uI (fun _ => 0) 1 a) (fun _ => 0) Q
  refine ⟨fun x => h0 (fun j hj e => ?_), fun x => ⟨fun y => h0 (fun j hj e => ?_), fun y => ?_⟩⟩
  · have x : a < 0 := x
    rw [e] at x
    exact absurd x (nI_pos (by omega))
  · have y : t.1 4 ≤ a := y
    rw [e4, e] at y
    exact absurd y (nI_ge (by omega) (by omega))
  · have x : ¬ a < 0 := x
    have y : ¬ t.1 4 ≤ a := y
    rw [e4] at y
    obtain ⟨j, hj, e⟩ := nI_of (x := a) x
    refine h1 j (Nat.lt_of_not_le (fun q => y ?_)) e
    rw [e]; exact nI_le q hj
theorem hmx_isSimplex {t : XT} {c K : Nat} {a : Int32} {Q : Int32 → XT → Prop} (e3 : t.1 3 = nI c) (hc : c ≤ 60) (hK : 3 ≤ K) (h1 : ∀ j, j < c → a = nI j → Q 1 t) (h0 : (∀ j, j < c → a ≠ nI j) → Q 0 t) : wqX12_isSimplex K t a Q := by
  refine hm_isSimplex e3 hK ?_
  rcases hm_num hc a with ⟨j, hj, e, hin⟩ | ⟨no, hin⟩
  · rw [if_pos hin]; exact h1 j hj e
  · rw [if_neg hin]; exact h0 no
/-- the SIGN of letters in letters -/
def hns (F S : Int32) : Int32 := if hm_bc (S &&& ((S &&& (F ^^^ (-1))) - 1)) - hm_bc (S &&& ((S &&& (F ^^^ (-1))) - 1)) / 2 * 2 = 0 then 1 else -1
theorem hns_par : ∀ j : Nat, j < 64 → ((nI j &&& 1 = 0) ↔ (nI j - nI j / 2 * 2 = 0)) := by decide +kernel
theorem hcx_signOf {t : XT} {L : Nat → Int32} {c f s K : Nat} {Q : Int32 → XT → Prop} (hE : hcE t L c) (hc : c ≤ 60) (hf : f < c) (hs : s < c) (hK : 2 ≤ K) (h1 : hnF L s f → Q (hns (L f) (L s)) t) (h0 : ¬ hnF L s f → Q 0 t) : wqX9_signOf K t (nI f) (nI s) Q := by
  obtain ⟨K, rfl⟩ : ∃ K', K = K' + 1 := ⟨K - 1, by omega⟩
  have cs : (nI s).toNatClampNeg = s := nI_clamp (by omega)
  have cf : (nI f).toNatClampNeg = f := nI_clamp (by omega)
  have is := vp_in_nI (n := s) (N := 64) (by omega) (by decide)
  have jf := vp_in_nI (n := f) (N := 64) (by omega) (by decide)
  show wbX9_signOf_0 (wpX9_signOf K) K t (uI (uI (fun _ => 0) 1 (nI f)) 2 (nI s)) (fun _ => 0) Q
  refine ⟨is, fun v1 e1 => ?_⟩
  have e1 : v1 = t.2.2.2 0 (nI s).toNatClampNeg := e1
  rw [cs] at e1
  have bt := hE.2.2.2.2.1 s f
  rw [← e1] at bt
  refine hw_isIn (by omega) (by omega) (fun y => ⟨fun _ => ⟨is, fun v4 e4 => ⟨jf, fun v5 e5 v6 e6 v7 e7 => ⟨is, fun v8 e8 v9 e9 v10 e10 => ?_⟩⟩⟩, fun z => absurd z (by decide)⟩) (fun y => ⟨fun z => absurd rfl z, fun _ => h0 (fun w => ?_)⟩)
  · have q := h1 (bt.mp y).2
    have e4 : v4 = L s := e4.trans ((congrArg (t.2.2.1 2) cs).trans (hE.2.1 s hs))
    have e8 : v8 = L s := e8.trans ((congrArg (t.2.2.1 2) cs).trans (hE.2.1 s hs))
    have e5 : v5 = L f := e5.trans ((congrArg (t.2.2.1 2) cf).trans (hE.2.1 f hf))
    have e10 : v10 = L s &&& ((L s &&& (L f ^^^ (-1))) - 1) := by rw [e10, e9, e8, e7, e6, e4, e5]
    rw [e10]
    refine hm_bitCount (by omega) (fun v12 e12 => ?_)
    obtain ⟨j, hj, ej⟩ := hm_bc_lt (L s &&& ((L s &&& (L f ^^^ (-1))) - 1))
    have par := hns_par j hj
    rw [ej] at e12
    unfold hns at q
    rw [ej] at q
    refine ⟨fun z => ?_, fun z => ?_⟩
    · rw [if_neg (fun w => z (by rw [e12]; exact par.mpr w))] at q; exact q
    · rw [if_pos (par.mp (by rw [← e12]; exact z))] at q; exact q
  · exact absurd ((bt.mpr ⟨hs, w⟩).symm.trans y) (by decide)
theorem hmx_sign {t : XT} {L : Nat → Int32} {c f s : Nat} (hM : hmE t L c) (hf : f < c) (hs : s < c) : hm_sign t f s = hns (L f) (L s) := by
  unfold hm_sign hns hm_let
  rw [hM.2.1 f hf, hM.2.1 s hs]
theorem hnx_sign {t : XT} {L : Nat → Int32} {c K : Nat} {a b : Int32} {Q : Int32 → XT → Prop} (hE : hcE t L c) (hc : c ≤ 60) (hK : 10 ≤ K)
    (h2 : ∀ f s, f < c → s < c → a = nI f → b = nI s → hnF L s f → Q (hns (L f) (L s)) t) (h1 : ∀ f s, f < c → s < c → a = nI f → b = nI s → ¬ hnF L s f → Q 0 t)
    (h0 : (∀ f s, f < c → s < c → a = nI f → ¬ b = nI s) → Q (-2147483648) t) : wqX11_sign K t a b Q := by
  obtain ⟨K, rfl⟩ : ∃ K', K = K' + 2 := ⟨K - 2, by omega⟩
  show wbX11_sign_0 (wpX11_sign (K + 1)) (K + 1) t (uI (uI (fun _ => 0) 1 a) 2 b) (fun _ => 0) Q
  refine hcx_has hE.1 hc (by omega) (fun f hf ef => ⟨fun z => absurd z (by decide), fun _ => ?_⟩) (fun no => ⟨fun _ => h0 (fun f s hf hs e => absurd e (no f hf)), fun z => absurd rfl z⟩)
  refine hcx_has hE.1 hc (by omega) (fun s hs es => ⟨fun _ => ?_, fun z => absurd z (by decide)⟩) (fun no => ⟨fun z => absurd rfl z, fun _ => h0 (fun f s hf hs e => no s hs)⟩)
  have ef : a = nI f := ef
  have es : b = nI s := es
  show wqX9_signOf (K + 1) t a b (fun r t => Q r t)
  rw [ef, es]
  exact hcx_signOf hE hc hf hs (by omega) (fun y => h2 f s hf hs ef es y) (fun y => h1 f s hf hs ef es y)
theorem hnm_sign {t : XT} {L : Nat → Int32} {c K : Nat} {a b : Int32} {Q : Int32 → XT → Prop} (hM : hmE t L c) (hL : hnL L c) (hK : 12 ≤ K)
    (h2 : ∀ f s, f < c → s < c → a = nI f → b = nI s → hnF L s f → Q (hns (L f) (L s)) t) (h1 : ∀ f s, f < c → s < c → a = nI f → b = nI s → ¬ hnF L s f → Q 0 t)
    (h0 : (∀ f s, f < c → s < c → a = nI f → ¬ b = nI s) → Q (-2147483648) t) : wqX12_sign K t a b Q := by
  have hc := hL.1
  obtain ⟨K, rfl⟩ : ∃ K', K = K' + 2 := ⟨K - 2, by omega⟩
  show wbX12_sign_0 (wpX12_sign (K + 1)) (K + 1) t (uI (uI (fun _ => 0) 1 a) 2 b) (fun _ => 0) Q
  refine hmx_isSimplex hM.1 hc (by omega) (fun f hf ef => ⟨fun z => absurd z (by decide), fun _ => ?_⟩) (fun no => ⟨fun _ => h0 (fun f s hf hs e => absurd e (no f hf)), fun z => absurd rfl z⟩)
  refine hmx_isSimplex hM.1 hc (by omega) (fun s hs es => ⟨fun _ => ?_, fun z => absurd z (by decide)⟩) (fun no => ⟨fun z => absurd rfl z, fun _ => h0 (fun f s hf hs e => no s hs)⟩)
  have ef : a = nI f := ef
  have es : b = nI s := es
  have fi := hf_face hM hL hf hs
  show wqX12_isFace (K + 1) t a b (fun r_5 t_5 => ((r_5 = 0) → Q 0 t_5) ∧ (¬ (r_5 = 0) → wqX12_signOf (K + 1) t_5 a b (fun r_7 t_7 => Q r_7 t_7)))
  rw [ef, es]
  refine hm_isFace (by omega) (by omega) (by omega) (fun y => ⟨fun z => absurd z (by decide), fun _ => ?_⟩) (fun y => ⟨fun _ => h1 f s hf hs ef es (fun w => y (fi.mpr w)), fun z => absurd rfl z⟩)
  refine hm_signOf (by omega) (by omega) (by omega) ?_
  rw [hmx_sign hM hf hs]
  exact h2 f s hf hs ef es (fi.mp y)
theorem hab_sign (n : Nat) (tx tm : XT) (p1 p2 : Int32) (hJ : hJs (n + 1) tx tm) : ∃ k, wqX11_sign k tx p1 p2 (fun r1 tx' => ∃ k', wqX12_sign k' tm p1 p2 (fun r2 tm' => r1 = r2 ∧ hJs n tx' tm')) := by
  obtain ⟨k, w⟩ := has_sign n tx tm p1 p2 hJ
  obtain ⟨_, c, L, hL, hE, hM⟩ := hJ
  obtain ⟨W, hW⟩ : ∃ W : Int32 → Prop, W = fun r => (∀ f s, f < c → s < c → p1 = nI f → p2 = nI s → (hnF L s f → r = hns (L f) (L s)) ∧ (¬ hnF L s f → r = 0)) ∧ ((∀ f s, f < c → s < c → p1 = nI f → ¬ p2 = nI s) → r = -2147483648) := ⟨_, rfl⟩
  have two : ∀ f s f' s' : Nat, f < c → s < c → f' < c → s' < c → p1 = nI f → p2 = nI s → p1 = nI f' → p2 = nI s' → f' = f ∧ s' = s := by
    intro f s f' s' a1 a2 a3 a4 b1 b2 b3 b4
    have hc := hL.1
    exact ⟨(nI_eq (by omega) (by omega)).mp (b3.symm.trans b1), (nI_eq (by omega) (by omega)).mp (b4.symm.trans b2)⟩
  have w2 : ∀ f s, f < c → s < c → p1 = nI f → p2 = nI s → hnF L s f → W (hns (L f) (L s)) := by
    intro f s hf hs ef es y
    rw [hW]
    refine ⟨fun f' s' a1 a2 a3 a4 => ?_, fun no => absurd es (no f s hf hs ef)⟩
    obtain ⟨rfl, rfl⟩ := two f s f' s' hf hs a1 a2 ef es a3 a4
    exact ⟨fun _ => rfl, fun z => absurd y z⟩
  have w1 : ∀ f s, f < c → s < c → p1 = nI f → p2 = nI s → ¬ hnF L s f → W 0 := by
    intro f s hf hs ef es y
    rw [hW]
    refine ⟨fun f' s' a1 a2 a3 a4 => ?_, fun no => absurd es (no f s hf hs ef)⟩
    obtain ⟨rfl, rfl⟩ := two f s f' s' hf hs a1 a2 ef es a3 a4
    exact ⟨fun z => absurd z y, fun _ => rfl⟩
  have w0 : (∀ f s, f < c → s < c → p1 = nI f → ¬ p2 = nI s) → W (-2147483648) := by
    intro no
    rw [hW]
    exact ⟨fun f s a1 a2 a3 a4 => absurd a4 (no f s a1 a2 a3), fun _ => rfl⟩
  have uni : ∀ r r', W r → W r' → r = r' := by
    intro r r' a b
    rw [hW] at a b
    by_cases z : ∃ f s, f < c ∧ s < c ∧ p1 = nI f ∧ p2 = nI s
    · obtain ⟨f, s, z1, z2, z3, z4⟩ := z
      have a' := a.1 f s z1 z2 z3 z4
      have b' := b.1 f s z1 z2 z3 z4
      by_cases y : hnF L s f
      · exact (a'.1 y).trans (b'.1 y).symm
      · exact (a'.2 y).trans (b'.2 y).symm
    · have no : ∀ f s, f < c → s < c → p1 = nI f → ¬ p2 = nI s := fun f s a1 a2 a3 a4 => z ⟨f, s, a1, a2, a3, a4⟩
      exact (a.2 no).trans (b.2 no).symm
  have ex : wqX11_sign (k + 10) tx p1 p2 (fun r _ => W r) := hnx_sign hE hL.1 (by omega) (fun f s a1 a2 a3 a4 y => w2 f s a1 a2 a3 a4 y) (fun f s a1 a2 a3 a4 y => w1 f s a1 a2 a3 a4 y) w0
  refine ⟨k + 10, wiX11_sign (wmX11_sign (Nat.le_add_right k 10) (fun _ _ h => h) w) ex (fun r1 tx' h g => ?_)⟩
  obtain ⟨k', w'⟩ := h
  have em : wqX12_sign (k' + 12) tm p1 p2 (fun r _ => W r) := hnm_sign hM hL (by omega) (fun f s a1 a2 a3 a4 y => w2 f s a1 a2 a3 a4 y) (fun f s a1 a2 a3 a4 y => w1 f s a1 a2 a3 a4 y) w0
  exact ⟨k' + 12, wiX12_sign (wmX12_sign (Nat.le_add_right k' 12) (fun _ _ h => h) w') em (fun r2 tm' h' g' => ⟨uni r1 r2 g g', h'⟩)⟩
