/-! ===== the class: what is told is closed under parts ===== -/
def hx_P (a : Int32) (b : Nat) : Prop := ¬ a < nI b ∧ nI b &&& (a ^^^ (-1)) = 0
def hx_cl (R : Nat → Int32) : Prop := ∀ a b, a < 256 → 0 < b → b &&& a = b → R a ≠ 0 → R b ≠ 0
theorem hx_nI_and {a b : Nat} (ha : a < 256) (hb : b < 256) : nI (b &&& a) = nI b &&& nI a := by
  apply Int32.toBitVec_inj.mp
  apply BitVec.eq_of_toNat_eq
  show (BitVec.ofNat 32 (b &&& a)).toNat = (BitVec.ofNat 32 b &&& BitVec.ofNat 32 a).toNat
  have h : b &&& a ≤ a := Nat.and_le_right
  rw [BitVec.toNat_and, BitVec.toNat_ofNat, BitVec.toNat_ofNat, BitVec.toNat_ofNat, Nat.mod_eq_of_lt (show b &&& a < 2 ^ 32 by omega), Nat.mod_eq_of_lt (show b < 2 ^ 32 by omega), Nat.mod_eq_of_lt (show a < 2 ^ 32 by omega)]
theorem hx_P_sub {a : Int32} {x b : Nat} (hx : x < 256) (e : b &&& x = b) (h : hx_P a x) : hx_P a b := by
  have le : b ≤ x := by rw [← e]; exact Nat.and_le_right
  refine ⟨fun q => h.1 (Int32.lt_of_lt_of_le q (nI_le le (by omega))), ?_⟩
  have e2 : nI b = nI b &&& nI x := by rw [← hx_nI_and hx (by omega), e]
  rw [e2, Int32.and_assoc, h.2]
  exact Int32.and_zero
theorem hx_cl_end {R0 R : Nat → Int32} {a : Int32} (h0 : hx_cl R0) (h1 : ∀ b, 0 < b → b < 256 → hx_P a b → R b ≠ 0) (h2 : ∀ b, b < 256 → R b ≠ 0 → R0 b ≠ 0 ∨ hx_P a b) (h3 : ∀ b, b < 256 → R0 b ≠ 0 → R b ≠ 0) : hx_cl R := by
  intro x b hx hb e hr
  have le : b ≤ x := by rw [← e]; exact Nat.and_le_right
  rcases h2 x hx hr with q | q
  · exact h3 b (by omega) (h0 x b hx hb e q)
  · exact h1 b hb (by omega) (hx_P_sub hx e q)
def hx_rc (t : XT) (y m p : Nat) : Prop := hx_rd t y m p ∧ hx_cl (t.2.2.1 1)
theorem hx_rc_on {t : XT} {y m p : Nat} (h : hx_rc t y m p) (lt : p < y) {v : Int32} (e : v = t.1 3 + 1) : hx_rc (sI t 3 v) y m (p + 1) := ⟨hx_rd_on h.1 lt e, h.2⟩
theorem hy_skip_go {y m : Nat} {Q : XT → Prop} (hQ : ∀ p t', hx_rc t' y m p → Q t') :
    ∀ (d p K : Nat) (t : XT) (li : Nat → Int32) (lj : Nat → Int64), p + d = y → d + 5 ≤ K → hx_rc t y m p → wpX8_skipBlanks_c1 K 0 t li lj Q := by
  intro d
  induction d with
  | zero =>
    intro p K t li lj hd hK hR
    obtain ⟨K, rfl⟩ : ∃ K', K = K' + 1 := ⟨K - 1, by omega⟩
    show wbX8_skipBlanks_c1_0 (wpX8_skipBlanks_c1 K) K t li lj Q
    exact ⟨fun _ => hQ p t hR, fun x => absurd (by rw [hR.1.1.1, hR.1.2.1]; exact nI_le (by omega) (by have := hR.1.2.2; omega)) x⟩
  | succ d ih =>
    intro p K t li lj hd hK hR
    obtain ⟨K, rfl⟩ : ∃ K', K = K' + 1 := ⟨K - 1, by omega⟩
    have y160 := hR.1.2.2.2
    show wbX8_skipBlanks_c1_0 (wpX8_skipBlanks_c1 K) K t li lj Q
    refine ⟨fun _ => hQ p t hR, fun _ => ?_⟩
    rw [hR.1.2.1]
    refine hz_at hR.1.1.1 y160 (by omega) (by omega) (fun v => ⟨fun _ => hQ p t hR, fun _ v4 e4 t5 e5 => ?_⟩)
    exact ih (p + 1) K t5 li lj (by omega) (by omega) (by rw [e5]; exact hx_rc_on hR (by omega) e4)
theorem hy_skipBlanks {t : XT} {y m p K : Nat} {Q : XT → Prop} (hR : hx_rc t y m p) (hK : 170 ≤ K) (hQ : ∀ p t', hx_rc t' y m p → Q t') : wqX8_skipBlanks_c1 K t Q := by
  have h1 := hR.1.2.2
  exact hy_skip_go hQ (y - p) p K t _ _ (by omega) (by omega) hR
theorem hy_tell_go {y m p : Nat} {a : Int32} {R0 : Nat → Int32} {lj : Nat → Int64} {Q : XT → Prop} (h0 : hx_cl R0) (hQ : ∀ t', hx_rc t' y m p → Q t') :
    ∀ (d i K : Nat) (t : XT) (li : Nat → Int32), i + d = 256 → 2 * d + 5 ≤ K → hx_rd t y m p → (∀ b, 0 < b → b < i → hx_P a b → t.2.2.1 1 b ≠ 0) → (∀ b, b < 256 → t.2.2.1 1 b ≠ 0 → R0 b ≠ 0 ∨ hx_P a b) → (∀ b, b < 256 → R0 b ≠ 0 → t.2.2.1 1 b ≠ 0) → li 1 = a → li 2 = nI i → wpX8_tell K 1 t li lj Q := by
  have out : ∀ (t : XT) (i : Nat), i ≤ 256 → (i = 256 ∨ a < nI i) → hx_rd t y m p → (∀ b, 0 < b → b < i → hx_P a b → t.2.2.1 1 b ≠ 0) → (∀ b, b < 256 → t.2.2.1 1 b ≠ 0 → R0 b ≠ 0 ∨ hx_P a b) → (∀ b, b < 256 → R0 b ≠ 0 → t.2.2.1 1 b ≠ 0) → Q t := by
    intro t i hi hx hR h1 h2 h3
    refine hQ t ⟨hR, hx_cl_end h0 (fun b hb b2 hP => ?_) h2 h3⟩
    by_cases q : b < i
    · exact h1 b hb q hP
    · rcases hx with e | lt
      · exact absurd b2 (by omega)
      · exact absurd (Int32.lt_of_lt_of_le lt (nI_le (by omega) (by omega))) hP.1
  intro d
  induction d with
  | zero =>
    intro i K t li hd hK hR h1 h2 h3 e1 e2
    obtain ⟨K, rfl⟩ : ∃ K', K = K' + 1 := ⟨K - 1, by omega⟩
    obtain rfl : i = 256 := by omega
    have o := out t 256 (by omega) (Or.inl rfl) hR h1 h2 h3
    show wbX8_tell_1 (wpX8_tell K) K t li lj Q
    exact ⟨fun _ => o, fun _ => ⟨fun _ => o, fun x => absurd (show nI 256 ≤ li 2 by rw [e2]; exact nI_le (by omega) (by omega)) x⟩⟩
  | succ d ih =>
    intro i K t li hd hK hR h1 h2 h3 e1 e2
    obtain ⟨K, rfl⟩ : ∃ K', K = K' + 2 := ⟨K - 2, by omega⟩
    have nx : ∀ (t' : XT), hx_rd t' y m p → (∀ b, 0 < b → b < i + 1 → hx_P a b → t'.2.2.1 1 b ≠ 0) → (∀ b, b < 256 → t'.2.2.1 1 b ≠ 0 → R0 b ≠ 0 ∨ hx_P a b) → (∀ b, b < 256 → R0 b ≠ 0 → t'.2.2.1 1 b ≠ 0) → wpX8_tell (K + 1) 2 t' li lj Q := by
      intro t' hR' g1 g2 g3
      show wbX8_tell_2 (wpX8_tell K) K t' li lj Q
      intro v e
      exact ih (i + 1) K t' _ (by omega) (by omega) hR' g1 g2 g3 e1 (by show v = _; rw [e, e2]; exact hs_inc i)
    have more : ∀ {R : Nat → Int32}, (∀ b, 0 < b → b < i → hx_P a b → R b ≠ 0) → (hx_P a i → R i ≠ 0) → ∀ b, 0 < b → b < i + 1 → hx_P a b → R b ≠ 0 := by
      intro R g gi b hb b1 hP
      by_cases q : b = i
      · subst q; exact gi hP
      · exact g b hb (by omega) hP
    show wbX8_tell_1 (wpX8_tell (K + 1)) (K + 1) t li lj Q
    unfold wbX8_tell_1
    rw [e1, e2]
    have hin : vp_in (nI i) 256 := vp_in_nI (by omega) (by decide)
    have ci : (nI i).toNatClampNeg = i := nI_clamp (by omega)
    refine ⟨fun lt => out t i (by omega) (Or.inr lt) hR h1 h2 h3, fun nlt => ⟨fun x => absurd (show nI 256 ≤ nI i from x) (Int32.not_le.mpr (nI_lt (by omega) (by omega))), fun _ v3 e3 v4 e4 => ⟨fun ne => nx t hR (more h1 (fun hP => absurd (by rw [e4, e3]; exact hP.2) ne)) h2 h3, fun z4 => ⟨hin, fun v6 e6 => ⟨fun ne => nx t hR (more h1 (fun _ => by rw [e6, ci] at ne; exact ne)) h2 h3, fun _ => ⟨hin, fun t8 e8 v9 _ t10 e10 => ?_⟩⟩⟩⟩⟩⟩
    have hP : hx_P a i := ⟨nlt, by rw [e4, e3] at z4; exact z4⟩
    rw [ci] at e8
    have up : ∀ b, t10.2.2.1 1 b = if b = i then 1 else t.2.2.1 1 b := fun b => by rw [e10, e8]; rfl
    refine nx t10 ?_ (more (fun b hb b1 hb2 => ?_) (fun _ => ?_)) (fun b hb hn => ?_) (fun b hb hn => ?_)
    · subst e10 e8
      have hI := hR.1
      exact ⟨hx_frame hI rfl rfl rfl rfl rfl rfl hI.2.2.2.2.2.2.2.1 rfl rfl, hR.2.1, hR.2.2⟩
    · rw [up b, if_neg (by omega)]; exact h1 b hb b1 hb2
    · rw [up i, if_pos rfl]; decide
    · by_cases q : b = i
      · subst q; exact Or.inr hP
      · rw [up b, if_neg q] at hn; exact h2 b hb hn
    · by_cases q : b = i
      · rw [up b, if_pos q]; decide
      · rw [up b, if_neg q]; exact h3 b hb hn
theorem hy_tell {t : XT} {y m p K : Nat} {a : Int32} {Q : XT → Prop} (hR : hx_rc t y m p) (hK : 600 ≤ K) (hQ : ∀ t', hx_rc t' y m p → Q t') : wqX8_tell K t a Q := by
  obtain ⟨K, rfl⟩ : ∃ K', K = K' + 1 := ⟨K - 1, by omega⟩
  exact hy_tell_go (R0 := t.2.2.1 1) hR.2 hQ 255 1 K t _ (by omega) (by omega) hR.1 (fun b h1 h2 => absurd h2 (by omega)) (fun b _ h => Or.inl h) (fun b _ h => h) rfl rfl
theorem hy_rf_go {y m : Nat} {lj : Nat → Int64} {Q : Int32 → XT → Prop} (hQ : ∀ r p t', hx_rc t' y m p → Q r t') :
    ∀ (d p K : Nat) (t : XT) (li : Nat → Int32), p + d = y → d + 700 ≤ K → hx_rc t y m p → wpX8_readFacet_c1 K 1 t li lj Q := by
  have two : ∀ (p K : Nat) (t : XT) (li : Nat → Int32), 650 ≤ K → hx_rc t y m p → wpX8_readFacet_c1 K 2 t li lj Q := by
    intro p K t li hK hR
    obtain ⟨K, rfl⟩ : ∃ K', K = K' + 1 := ⟨K - 1, by omega⟩
    show wbX8_readFacet_c1_2 (wpX8_readFacet_c1 K) K t li lj Q
    exact hy_tell hR (by omega) (fun t23 h23 => ⟨fun _ => hQ _ p t23 h23, fun _ => hz_fault (by omega) (fun v => hQ v p t23 h23)⟩)
  intro d
  induction d with
  | zero =>
    intro p K t li hd hK hR
    obtain ⟨K, rfl⟩ : ∃ K', K = K' + 1 := ⟨K - 1, by omega⟩
    show wbX8_readFacet_c1_1 (wpX8_readFacet_c1 K) K t li lj Q
    exact ⟨fun _ => two p K t li (by omega) hR, fun x => absurd (by rw [hR.1.1.1, hR.1.2.1]; exact nI_le (by omega) (by have := hR.1.2.2; omega)) x⟩
  | succ d ih =>
    intro p K t li hd hK hR
    obtain ⟨K, rfl⟩ : ∃ K', K = K' + 1 := ⟨K - 1, by omega⟩
    have y160 := hR.1.2.2.2
    show wbX8_readFacet_c1_1 (wpX8_readFacet_c1 K) K t li lj Q
    refine ⟨fun _ => two p K t li (by omega) hR, fun _ => ?_⟩
    rw [hR.1.2.1]
    refine hz_at hR.1.1.1 y160 (by omega) (by omega) (fun v8 => hz_isLetter (by omega) ⟨fun x => absurd x (by decide), fun _ => ?_⟩ ⟨fun _ => two p K t li (by omega) hR, fun x => absurd rfl x⟩)
    rw [hR.1.2.1]
    refine hz_at hR.1.1.1 y160 (by omega) (by omega) (fun v11 v12 _ v13 _ v14 _ => ⟨fun _ => hm_bitCount (by omega) ⟨fun _ v18 _ v19 e19 t20 e20 => ?_, fun _ => hz_fault (by omega) (fun v => hQ v p t hR)⟩, fun _ => hz_fault (by omega) (fun v => hQ v p t hR)⟩)
    exact ih (p + 1) K t20 _ (by omega) (by omega) (by rw [e20]; exact hx_rc_on hR (by omega) (e19.trans (by rw [hR.1.2.1])))
theorem hy_readFacet {t : XT} {y m p K : Nat} {a : Int32} {Q : Int32 → XT → Prop} (hR : hx_rc t y m p) (hK : 900 ≤ K) (hQ : ∀ r p t', hx_rc t' y m p → Q r t') : wqX8_readFacet_c1 K t a Q := by
  obtain ⟨K, rfl⟩ : ∃ K', K = K' + 1 := ⟨K - 1, by omega⟩
  have h1 := hR.1.2.2
  show wbX8_readFacet_c1_0 (wpX8_readFacet_c1 K) K t (uI (fun _ => 0) 2 a) (fun _ => 0) Q
  unfold wbX8_readFacet_c1_0
  rw [hR.1.2.1]
  refine hz_at hR.1.1.1 h1.2 (by omega) (by omega) (fun v => hz_isLetter (by omega) ⟨fun _ => ⟨fun _ => ?_, fun _ => hz_fault (by omega) (fun v => hQ v p t hR)⟩, fun x => absurd x (by decide)⟩ ⟨fun x => absurd rfl x, fun _ => hz_fault (by omega) (fun v => hQ v p t hR)⟩)
  exact hy_rf_go hQ (y - p) p K t _ (by omega) (by omega) hR
theorem hy_read_go {y m : Nat} {lj : Nat → Int64} {Q : Int32 → XT → Prop} (hQ : ∀ r p t', hx_rc t' y m p → Q r t') :
    ∀ (d f p K : Nat) (t : XT) (li : Nat → Int32), f + d = 25 → d + 1000 ≤ K → hx_rc t y m p → li 2 = nI f → wpX8_read_c1 K 1 t li lj Q := by
  intro d
  induction d with
  | zero =>
    intro f p K t li hd hK hR e2
    obtain ⟨K, rfl⟩ : ∃ K', K = K' + 1 := ⟨K - 1, by omega⟩
    obtain rfl : f = 25 := by omega
    show wbX8_read_c1_1 (wpX8_read_c1 K) K t li lj Q
    exact ⟨fun _ => hz_fault (by omega) (fun v => hQ v p t hR), fun x => absurd (show nI 24 < li 2 by rw [e2]; exact nI_lt (by omega) (by omega)) x⟩
  | succ d ih =>
    intro f p K t li hd hK hR e2
    obtain ⟨K, rfl⟩ : ∃ K', K = K' + 1 := ⟨K - 1, by omega⟩
    show wbX8_read_c1_1 (wpX8_read_c1 K) K t li lj Q
    refine ⟨fun _ => hz_fault (by omega) (fun v => hQ v p t hR), fun _ => hy_skipBlanks hR (by omega) (fun p6 t6 h6 => hy_readFacet h6 (by omega) (fun r7 p7 t7 h7 => ⟨fun _ => hy_skipBlanks h7 (by omega) (fun p9 t9 h9 => ⟨fun ne => ?_, fun _ => hQ _ p9 t9 h9⟩), fun _ => hQ _ p7 t7 h7⟩))⟩
    have h := h9.1.2.2
    rw [h9.1.2.1, h9.1.1.1] at ne
    have lt : p9 < y := Nat.lt_of_le_of_ne h.1 (fun q => ne (congrArg nI q))
    rw [h9.1.2.1]
    refine hz_at h9.1.1.1 h.2 (by omega) (by omega) (fun v11 => ⟨fun _ v13 e13 t14 e14 v15 e15 => ?_, fun _ => hz_fault (by omega) (fun v => hQ v p9 t9 h9)⟩)
    exact ih (f + 1) (p9 + 1) K t14 _ (by omega) (by omega) (by rw [e14]; exact hx_rc_on h9 lt (e13.trans (by rw [h9.1.2.1]))) (by show v15 = _; rw [e15, e2]; exact hs_inc f)
theorem hy_read {t : XT} {y m K : Nat} {Q : Int32 → XT → Prop} (hI : hx_inv t (nI y) m) (hy : y ≤ 160) (hK : 1100 ≤ K) (hQ : ∀ r p t', hx_rc t' y m p → Q r t') : wqX8_read_c1 K t Q := by
  obtain ⟨K, rfl⟩ : ∃ K', K = K' + 1 := ⟨K - 1, by omega⟩
  show wbX8_read_c1_0 (wpX8_read_c1 K) K t (fun _ => 0) (fun _ => 0) Q
  intro t1 e1 t2 e2 t3 e3
  refine hy_read_go hQ 25 0 0 K t3 _ (by omega) (by omega) ?_ rfl
  subst e3 e2 e1
  exact ⟨⟨hx_frame hI rfl rfl rfl rfl rfl rfl hI.2.2.2.2.2.2.2.1 rfl rfl, rfl, by omega, hy⟩, fun a b _ _ _ h => absurd rfl h⟩
