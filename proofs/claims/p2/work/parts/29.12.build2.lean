/-! ===== the class's SHAPE, exactly: build ===== -/
def hnF (L : Nat → Int32) (k f : Nat) : Prop := f < k ∧ ∃ x l, x < 256 ∧ l < 8 ∧ L k = nI x ∧ x.testBit l = true ∧ L f = nI (hnc x l)
def hnD (L : Nat → Int32) (c : Nat) : Prop := ∀ j k, j < k → k < c → L j ≠ L k
theorem hnO_at {L : Nat → Int32} {b f : Nat} (hf : f < 64) : ∀ c, c ≤ 60 → hnD L c → (hnO L c b = nI f ↔ (f < c ∧ L f = nI b)) := by
  intro c
  induction c with
  | zero => exact fun _ _ => ⟨fun w => absurd w.symm (hs_nI_neg (by omega)), fun w => absurd w.1 (by omega)⟩
  | succ c ih =>
    intro hc hD
    show (if L c = nI b then nI c else hnO L c b) = nI f ↔ _
    have i := ih (by omega) (fun j k a b => hD j k a (by omega))
    by_cases z : L c = nI b
    · rw [if_pos z]
      refine ⟨fun w => ?_, fun w => ?_⟩
      · have w := (nI_eq (by omega) (by omega)).mp w
        subst w; exact ⟨by omega, z⟩
      · by_cases y : f = c
        · rw [y]
        · exact absurd (w.2.trans z.symm) (hD f c (by omega) (by omega))
    · rw [if_neg z, i]
      refine ⟨fun w => ⟨by omega, w.2⟩, fun w => ⟨?_, w.2⟩⟩
      by_cases y : f = c
      · exact absurd (y ▸ w.2) z
      · omega
theorem hnO_or {L : Nat → Int32} {b : Nat} : ∀ c, hnO L c b = -1 ∨ ∃ f, f < c ∧ hnO L c b = nI f := by
  intro c
  induction c with
  | zero => exact Or.inl rfl
  | succ c ih =>
    show (if L c = nI b then nI c else hnO L c b) = -1 ∨ ∃ f, f < c + 1 ∧ (if L c = nI b then nI c else hnO L c b) = nI f
    by_cases z : L c = nI b
    · rw [if_pos z]; exact Or.inr ⟨c, by omega, rfl⟩
    · rw [if_neg z]
      rcases ih with q | ⟨f, f1, f2⟩
      · exact Or.inl q
      · exact Or.inr ⟨f, by omega, f2⟩
theorem hnc_ne {s l : Nat} (hs : s < 256) (hl : l < 8) (h : s.testBit l = true) : hnc s l < 256 ∧ hnc s l ≠ s := by
  obtain ⟨j, hj, ej⟩ := hz_and255 hs ((1 <<< (nI l &&& 31)) ^^^ (-1))
  have e : hnc s l = j := by unfold hnc; rw [ej]; exact nI_clamp (by omega)
  rw [e]
  exact ⟨hj, fun q => (hc_cl hl hs).mp (by rw [ej, q]) h⟩
def hcE (t : XT) (L : Nat → Int32) (c : Nat) : Prop :=
  t.1 4 = nI c ∧ (∀ k, k < c → t.2.2.1 2 k = L k) ∧ (∀ k, k < c → t.2.2.1 3 k = hm_bc (L k) - 1) ∧ (∀ a, a < 256 → t.2.2.1 4 a = hnO L c a) ∧ (∀ k f, hb (t.2.2.2 0 k) f = true ↔ (k < c ∧ hnF L k f)) ∧ (∀ f k, hb (t.2.2.2 1 f) k = true ↔ (k < c ∧ hnF L k f)) ∧ (∀ d k, d < 5 → (hb (t.2.2.2 2 d) k = true ↔ (k < c ∧ hm_bc (L k) = nI (d + 1))))
theorem hnF_put {L : Nat → Int32} {c k f : Nat} {v : Int32} (hk : k < c) : hnF (upd L c v) k f ↔ hnF L k f := by
  unfold hnF
  rw [show upd L c v k = L k from if_neg (by omega)]
  refine and_congr_right (fun hf => ?_)
  rw [show upd L c v f = L f from if_neg (by omega)]
theorem hnF_new {L N : Nat → Int32} {c a f : Nat} (ha : a < 256) (hc : c ≤ 60) (hD : hnD L c) (hN : ∀ b, b < 256 → b ≠ a → N b = hnO L c b) : hnR N a 8 f ↔ hnF (upd L c (nI a)) c f := by
  unfold hnR hnF
  rw [show upd L c (nI a) c = nI a from if_pos rfl]
  refine ⟨fun w => ?_, fun w => ?_⟩
  · obtain ⟨f64, l, h1, h2, h3⟩ := w
    have n := hnc_ne ha h1 h2
    rw [hN _ n.1 n.2] at h3
    have q := (hnO_at f64 c hc hD).mp h3
    exact ⟨q.1, a, l, ha, h1, rfl, h2, (show upd L c (nI a) f = L f from if_neg (by omega)).trans q.2⟩
  · obtain ⟨fc, x, l, h0, h1, hx, h2, h3⟩ := w
    have xa := (nI_eq (by omega) (by omega)).mp hx
    subst xa
    have n := hnc_ne ha h1 h2
    rw [show upd L c (nI a) f = L f from if_neg (by omega)] at h3
    refine ⟨by omega, l, h1, h2, ?_⟩
    rw [hN _ n.1 n.2]
    exact (hnO_at (by omega) c hc hD).mpr ⟨fc, h3⟩
theorem hce_add {t : XT} {L : Nat → Int32} {c a d K : Nat} {Q : XT → Prop} (hE : hcE t L c) (hD : hnD L c) (hc : c < 60) (ha : a < 256) (hd : d < 5) (hz : hm_bc (nI a) = nI (d + 1)) (hK : 100 ≤ K) (hQ : ∀ t', hcE t' (upd L c (nI a)) (c + 1) → t'.2.2.1 1 = t.2.2.1 1 → Q t') : wqX9_add K t (nI a) (nI d) Q := by
  obtain ⟨K, rfl⟩ : ∃ K', K = K' + 1 := ⟨K - 1, by omega⟩
  obtain ⟨e4, E2, E3, E4, B0, B1, B2⟩ := hE
  have cm : (nI c).toNatClampNeg = c := nI_clamp (by omega)
  have ca : (nI a).toNatClampNeg = a := nI_clamp (by omega)
  have cd : (nI d).toNatClampNeg = d := nI_clamp (by omega)
  have hmi := vp_in_nI (n := c) (N := 64) (by omega) (by decide)
  have hdi := vp_in_nI (n := d) (N := 5) hd (by decide)
  show wbX9_add_0 (wpX9_add K) K t (uI (uI (fun _ => 0) 1 (nI a)) 2 (nI d)) (fun _ => 0) Q
  refine ⟨by rw [e4]; exact hmi, fun t1 e1 => ?_⟩
  have e41 : t1.1 4 = nI c := by rw [e1]; exact e4
  refine ⟨by rw [e41]; exact hmi, fun t2 e2 => ⟨vp_in_nI (n := a) ha (by decide), fun t3 e3 => ⟨hdi, fun v4 f4 => ?_⟩⟩⟩
  have e42 : t2.1 4 = nI c := by rw [e2]; exact e41
  have e43 : t3.1 4 = nI c := by rw [e3]; exact e42
  rw [e43]
  refine hw_bit (k := c) (by omega) (by omega) (fun v5 f5 v6 f6 => ⟨hdi, fun t7 e7 => ?_⟩)
  rw [e4, cm] at e1
  rw [e41, cm] at e2
  rw [e42] at e3
  have e3 : t3 = sA t2 4 (upd (t2.2.2.1 4) (nI a).toNatClampNeg (nI c)) := e3
  rw [ca] at e3
  have e2 : t2 = sA t1 3 (upd (t1.2.2.1 3) c (nI d)) := e2
  have e1 : t1 = sA t 2 (upd (t.2.2.1 2) c (nI a)) := e1
  have e7 : t7 = sB t3 2 (vp_updL (t3.2.2.2 2) (nI d).toNatClampNeg v6) := e7
  have f4 : v4 = t3.2.2.2 2 (nI d).toNatClampNeg := f4
  rw [cd] at e7 f4
  subst e3 e2 e1
  have f4 : v4 = t.2.2.2 2 d := f4
  have e7 : t7 = sB (sA (sA (sA t 2 (upd (t.2.2.1 2) c (nI a))) 3 (upd (t.2.2.1 3) c (nI d))) 4 (upd (t.2.2.1 4) a (nI c))) 2 (vp_updL (t.2.2.2 2) d v6) := e7
  obtain ⟨u, hu⟩ : ∃ u, u = sB (sA (sA (sA t 2 (upd (t.2.2.1 2) c (nI a))) 3 (upd (t.2.2.1 3) c (nI d))) 4 (upd (t.2.2.1 4) a (nI c))) 2 (vp_updL (t.2.2.2 2) d v6) := ⟨_, rfl⟩
  rw [← hu] at e7
  have u4 : u.1 4 = nI c := by rw [hu]; exact e4
  have uN : u.2.2.1 4 = upd (t.2.2.1 4) a (nI c) := by rw [hu]; rfl
  have u0 : u.2.2.2 0 = t.2.2.2 0 := by rw [hu]; rfl
  have u1 : u.2.2.2 1 = t.2.2.2 1 := by rw [hu]; rfl
  have es : t7 = hb2 u (t.2.2.2 0) (t.2.2.2 1) := by
    rw [e7, ← u0, ← u1]
    unfold hb2 sB uI
    refine Prod.ext rfl (Prod.ext rfl (Prod.ext rfl ?_))
    funext j
    show u.2.2.2 j = cond (Nat.beq j 1) (u.2.2.2 1) (cond (Nat.beq j 0) (u.2.2.2 0) (u.2.2.2 j))
    cases h1 : Nat.beq j 1 with
    | true => rw [Nat.eq_of_beq_eq_true h1]; rfl
    | false =>
      cases h0 : Nat.beq j 0 with
      | true => rw [Nat.eq_of_beq_eq_true h0]; rfl
      | false => rfl
  have Nb : ∀ b, b < 256 → b ≠ a → upd (t.2.2.1 4) a (nI c) b = hnO L c b := fun b hb hne => (if_neg hne).trans (E4 b hb)
  rw [es]
  refine hce_add_go (F0 := t.2.2.2 0) (G0 := t.2.2.2 1) hc ha u4 uN (fun b hb hne => ?_) (fun F G hI => hQ _ ⟨rfl, fun k hk => ?_, fun k hk => ?_, fun b hb => ?_, fun k f => ?_, fun f k => ?_, fun d' k hd' => ?_⟩ ?_) 8 0 K _ _ _ (by omega) (by omega) ⟨fun f => ?_, fun k _ => rfl, fun f k => ?_⟩ rfl rfl
  · rw [Nb b hb hne]
    rcases @hnO_or L b c with q | ⟨f, f1, f2⟩
    · exact Or.inl q
    · exact Or.inr ⟨f, by omega, f2⟩
  · show u.2.2.1 2 k = upd L c (nI a) k
    rw [hu]
    show upd (t.2.2.1 2) c (nI a) k = upd L c (nI a) k
    by_cases z : k = c
    · rw [show upd (t.2.2.1 2) c (nI a) k = nI a from if_pos z, show upd L c (nI a) k = nI a from if_pos z]
    · rw [show upd (t.2.2.1 2) c (nI a) k = t.2.2.1 2 k from if_neg z, show upd L c (nI a) k = L k from if_neg z]
      exact E2 k (by omega)
  · show u.2.2.1 3 k = _
    rw [hu]
    show upd (t.2.2.1 3) c (nI d) k = hm_bc (upd L c (nI a) k) - 1
    by_cases z : k = c
    · rw [show upd (t.2.2.1 3) c (nI d) k = nI d from if_pos z, show upd L c (nI a) k = nI a from if_pos z, hz]
      rw [← nI_1 d]; exact (Int32.add_sub_cancel (nI d) 1).symm
    · rw [show upd (t.2.2.1 3) c (nI d) k = t.2.2.1 3 k from if_neg z, show upd L c (nI a) k = L k from if_neg z]
      exact E3 k (by omega)
  · show u.2.2.1 4 b = if upd L c (nI a) c = nI b then nI c else hnO (upd L c (nI a)) c b
    rw [uN, show upd L c (nI a) c = nI a from if_pos rfl]
    by_cases z : b = a
    · rw [z, if_pos rfl]; exact if_pos rfl
    · rw [if_neg (fun q => z ((nI_eq (by omega) (by omega)).mp q).symm), Nb b hb z]
      exact hnO_eq c b (fun k hk => (if_neg (by omega)).symm)
  · show hb (F k) f = true ↔ _
    by_cases z : k = c
    · rw [z, hI.1 f, hnF_new ha (by omega) hD Nb]
      exact ⟨fun w => ⟨by omega, w⟩, fun w => w.2⟩
    · rw [hI.2.1 k z, B0 k f]
      refine ⟨fun w => ⟨by omega, (hnF_put w.1).mpr w.2⟩, fun w => ?_⟩
      have kc : k < c := by omega
      exact ⟨kc, (hnF_put kc).mp w.2⟩
  · show hb (G f) k = true ↔ _
    rw [hI.2.2 f k, B1 f k]
    refine ⟨fun w => ?_, fun w => ?_⟩
    · rcases w with w | ⟨w1, w2⟩
      · exact ⟨by omega, (hnF_put w.1).mpr w.2⟩
      · rw [w1]; exact ⟨by omega, (hnF_new ha (by omega) hD Nb).mp w2⟩
    · by_cases z : k = c
      · rw [z] at w; exact Or.inr ⟨z, (hnF_new ha (by omega) hD Nb).mpr w.2⟩
      · have kc : k < c := by omega
        exact Or.inl ⟨kc, (hnF_put kc).mp w.2⟩
  · show hb (u.2.2.2 2 d') k = true ↔ _
    rw [hu]
    show hb (vp_updL (t.2.2.2 2) d v6 d') k = true ↔ (k < c + 1 ∧ hm_bc (upd L c (nI a) k) = nI (d' + 1))
    have old : k < c → upd L c (nI a) k = L k := fun w => if_neg (by omega)
    by_cases y : d' = d
    · rw [show vp_updL (t.2.2.2 2) d v6 d' = v6 from if_pos y, f6, hb_or, f4, hb_one f5, Bool.or_eq_true, ← y, B2 d' k hd']
      refine ⟨fun w => ?_, fun w => ?_⟩
      · rcases w with w | w
        · exact ⟨by omega, by rw [old w.1]; exact w.2⟩
        · have w : c = k := of_decide_eq_true w
          rw [← w, show upd L c (nI a) c = nI a from if_pos rfl, hz, y]
          exact ⟨by omega, rfl⟩
      · by_cases z : k = c
        · exact Or.inr (decide_eq_true z.symm)
        · have kc : k < c := by omega
          exact Or.inl ⟨kc, by rw [← old kc]; exact w.2⟩
    · rw [show vp_updL (t.2.2.2 2) d v6 d' = t.2.2.2 2 d' from if_neg y, B2 d' k hd']
      refine ⟨fun w => ⟨by omega, by rw [old w.1]; exact w.2⟩, fun w => ?_⟩
      by_cases z : k = c
      · exfalso
        rw [z, show upd L c (nI a) c = nI a from if_pos rfl, hz] at w
        exact y (by have := (nI_eq (by omega) (by omega)).mp w.2; omega)
      · have kc : k < c := by omega
        exact ⟨kc, by rw [← old kc]; exact w.2⟩
  · show u.2.2.1 1 = _
    rw [hu]; rfl
  · rw [B0 c f]
    exact ⟨fun w => absurd w.1 (by omega), fun w => by obtain ⟨_, l, h, _⟩ := w; omega⟩
  · refine ⟨Or.inl, fun w => w.elim id (fun w => ?_)⟩
    obtain ⟨_, _, l, h, _⟩ := w
    omega
