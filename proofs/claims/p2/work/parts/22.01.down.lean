/-! ===== the class: what comes down, exactly ===== -/
def hf_sg (L : Nat → Int32) (F : Nat → Int64) (f s : Nat) : Int := if hb (F s) f = true then (if hm_bc (L s &&& ((L s &&& (L f ^^^ (-1))) - 1)) &&& 1 = 0 then 1 else -1) else 0
def hf_b (P : Nat → Int32) (F : Nat → Int64) (k c : Nat) : Bool := hb (F k) c && !decide (P k = nI c)
def hf_fr (t t' : XT) : Prop := t'.1 = t.1 ∧ t'.2.1 = t.2.1 ∧ t'.2.2.1 = t.2.2.1 ∧ ∀ r, r ≠ 3 → t'.2.2.2 r = t.2.2.2 r
theorem hf_fr_r (t : XT) : hf_fr t t := ⟨rfl, rfl, rfl, fun _ _ => rfl⟩
theorem hf_fr_t {a b c : XT} (h1 : hf_fr a b) (h2 : hf_fr b c) : hf_fr a c := ⟨h2.1.trans h1.1, h2.2.1.trans h1.2.1, h2.2.2.1.trans h1.2.2.1, fun r x => (h2.2.2.2 r x).trans (h1.2.2.2 r x)⟩
theorem hf_fr_B (t : XT) (f : Nat → Int64) : hf_fr t (sB t 3 f) := ⟨rfl, rfl, rfl, fun _ x => uI_ne t.2.2.2 f x⟩
theorem hf_B3 (t : XT) (f : Nat → Int64) : (sB t 3 f).2.2.2 3 = f := rfl
/-- the row of values stands for whole numbers -/
def hf_v (t : XT) (V : Nat → Int) : Prop := ∀ c, c < 64 → t.2.2.2 3 c = Int64.ofInt (V c)
theorem hf_signOf {t : XT} {f s K : Nat} {Q : Int32 → XT → Prop} (hf : f < 64) (hs : s < 64) (hK : 2 ≤ K) (h : ∀ r : Int32, r.toInt64 = Int64.ofInt (hf_sg (t.2.2.1 2) (t.2.2.2 0) f s) → Q r t) : wqX9_signOf K t (nI f) (nI s) Q := by
  obtain ⟨K, rfl⟩ : ∃ K', K = K' + 1 := ⟨K - 1, by omega⟩
  have i := vp_in_nI (n := s) (N := 64) hs (by decide)
  have j := vp_in_nI (n := f) (N := 64) hf (by decide)
  have cs : (nI s).toNatClampNeg = s := nI_clamp (by omega)
  have cf : (nI f).toNatClampNeg = f := nI_clamp (by omega)
  show wbX9_signOf_0 (wpX9_signOf K) K t (uI (uI (fun _ => 0) 1 (nI f)) 2 (nI s)) (fun _ => 0) Q
  refine ⟨i, fun v1 e1 => hw_isIn hf (by omega) (fun b => ⟨fun _ => ⟨i, fun v4 e4 => ⟨j, fun v5 e5 v6 e6 v7 e7 => ⟨i, fun v8 e8 v9 e9 v10 e10 => hm_bitCount (by omega) (fun v12 e12 => ?_)⟩⟩⟩, fun x => absurd x (by decide)⟩) (fun b => ⟨fun x => absurd rfl x, fun _ => h 0 ?_⟩)⟩
  · have e1 : v1 = t.2.2.2 0 s := e1.trans (congrArg (t.2.2.2 0) cs)
    have e4 : v4 = t.2.2.1 2 s := e4.trans (congrArg (t.2.2.1 2) cs)
    have e8 : v8 = t.2.2.1 2 s := e8.trans (congrArg (t.2.2.1 2) cs)
    have e5 : v5 = t.2.2.1 2 f := e5.trans (congrArg (t.2.2.1 2) cf)
    rw [e1] at b
    have e : v12 = hm_bc (t.2.2.1 2 s &&& ((t.2.2.1 2 s &&& (t.2.2.1 2 f ^^^ (-1))) - 1)) &&& 1 := by rw [e12, e10, e9, e7, e6, e8, e4, e5]
    refine ⟨fun n => h (-1) ?_, fun z => h 1 ?_⟩
    · unfold hf_sg
      rw [if_pos b, if_neg (by rw [← e]; exact n)]; decide
    · unfold hf_sg
      rw [if_pos b, if_pos (by rw [← e]; exact z)]; decide
  · have e1 : v1 = t.2.2.2 0 s := e1.trans (congrArg (t.2.2.2 0) cs)
    rw [e1] at b
    unfold hf_sg
    rw [if_neg (by rw [b]; decide)]; decide
theorem hf_below {t : XT} {k K : Nat} {Q : Int64 → XT → Prop} (hk : k < 64) (hp : hx_p (t.2.2.1 5 k)) (hK : 1 ≤ K) (h : ∀ v, (∀ x, x < 64 → hb v x = hf_b (t.2.2.1 5) (t.2.2.2 0) k x) → Q v t) : wqX6_below K t (nI k) Q := by
  obtain ⟨K, rfl⟩ : ∃ K', K = K' + 1 := ⟨K - 1, by omega⟩
  have i := vp_in_nI (n := k) (N := 64) hk (by decide)
  have c : (nI k).toNatClampNeg = k := nI_clamp (by omega)
  show wbX6_below_0 (wpX6_below K) K t (uI (fun _ => 0) 1 (nI k)) (fun _ => 0) Q
  refine ⟨i, fun v1 e1 => ⟨fun ne => ⟨i, fun v3 e3 => ⟨i, fun v4 e4 v5 e5 v6 e6 v7 e7 => h v7 (fun x hx => ?_)⟩⟩, fun eq => ⟨i, fun v8 e8 => h v8 (fun x hx => ?_)⟩⟩⟩
  · have e1 : v1 = t.2.2.1 5 k := e1.trans (congrArg (t.2.2.1 5) c)
    have e3 : v3 = t.2.2.2 0 k := e3.trans (congrArg (t.2.2.2 0) c)
    have e4 : v4 = t.2.2.1 5 k := e4.trans (congrArg (t.2.2.1 5) c)
    obtain ⟨p, hp64, ep⟩ := hx_p_in hp (by rw [← e1]; exact ne)
    have f5 : un v5 = 2 ^ p := by rw [e5, e4, ep]; exact hw_1k p hp64
    unfold hf_b
    rw [e7, hb_and, e6, hb_not v5 hx, hb_one f5, e3, ep]
    congr 2
    by_cases q : p = x
    · rw [decide_eq_true q, decide_eq_true (congrArg nI q)]
    · rw [decide_eq_false q, decide_eq_false (fun z => q ((nI_eq (by omega) (by omega)).mp z))]
  · have e1 : v1 = t.2.2.1 5 k := e1.trans (congrArg (t.2.2.1 5) c)
    have e8 : v8 = t.2.2.2 0 k := e8.trans (congrArg (t.2.2.2 0) c)
    have eq : v1 = -1 := eq
    unfold hf_b
    rw [e8, e1.symm.trans eq, decide_eq_false (fun z => ?_)]
    · show _ = (_ && true)
      rw [Bool.and_true]
    · have := congrArg Int32.toInt z
      rw [nI_toInt (by omega)] at this
      have w : (-1 : Int) = (x : Int) := this
      omega
theorem hf_odd {n j : Nat} (hn : n < 2 ^ 64) (h1 : n.testBit j = true) (h0 : ∀ i, i < j → n.testBit i = false) : ∃ q, n = 2 ^ j * (1 + 2 * q) := by
  have e0 : n % 2 ^ j = 0 := by
    refine Nat.eq_of_testBit_eq (fun i => ?_)
    rw [Nat.testBit_mod_two_pow, Nat.zero_testBit]
    by_cases q : i < j
    · rw [h0 i q, Bool.and_false]
    · rw [decide_eq_false q, Bool.false_and]
  have e1 : n / 2 ^ j % 2 = 1 := by
    rw [Nat.testBit_eq_decide_div_mod_eq] at h1
    exact of_decide_eq_true h1
  refine ⟨n / 2 ^ j / 2, ?_⟩
  have a := Nat.mod_add_div n (2 ^ j)
  have b := Nat.mod_add_div (n / 2 ^ j) 2
  rw [e1] at b
  rw [b]
  rw [e0, Nat.zero_add] at a
  exact a.symm
/-- without its least -/
theorem hf_rest {v : Int64} {j : Nat} (h1 : hb v j = true) (h0 : ∀ i, i < j → hb v i = false) (x : Nat) : hb (v &&& (v - 1)) x = (hb v x && !decide (x = j)) := by
  obtain ⟨q, hq⟩ := hf_odd (un_lt v) h1 h0
  have pj : 0 < 2 ^ j := Nat.two_pow_pos j
  have pos : 1 ≤ un v := by rw [hq]; exact Nat.le_trans pj (Nat.le_mul_of_pos_right _ (by omega))
  have e1 : un (v - 1) = (2 ^ j - 1) + 2 ^ j * (2 * q) := by
    rw [un_sub (by rw [un_one]; exact pos), un_one, hq, Nat.mul_add, Nat.mul_one]
    omega
  have s := pl_split j 0 (1 + 2 * q) (2 ^ j - 1) (2 * q) pj (by omega)
  have s2 := pl_split 1 1 q 0 q (by decide) (by decide)
  have e : un (v &&& (v - 1)) = 2 ^ j * (2 * q) := by
    rw [un_and, e1]
    have en : un v = 0 + 2 ^ j * (1 + 2 * q) := by rw [Nat.zero_add]; exact hq
    rw [en, s, Nat.zero_and, Nat.zero_add]
    congr 1
    have s2 : (1 + 2 * q) &&& (0 + 2 * q) = (1 &&& 0) + 2 * (q &&& q) := s2
    rw [Nat.zero_add, Nat.and_zero, Nat.zero_add, Nat.and_self] at s2
    exact s2
  unfold hb at h1 h0 ⊢
  rw [e, Nat.testBit_two_pow_mul]
  have en2 := congrArg (fun n => Nat.testBit n x) hq
  have en2 : (un v).testBit x = (decide (x ≥ j) && (1 + 2 * q).testBit (x - j)) := en2.trans (Nat.testBit_two_pow_mul ..)
  rw [en2]
  by_cases a : x = j
  · rw [a, Nat.sub_self, decide_eq_true rfl]
    rw [show (2 * q).testBit 0 = false by rw [Nat.testBit_zero]; exact decide_eq_false (by omega)]
    simp
  · rw [decide_eq_false a]
    by_cases b : x ≥ j
    · obtain ⟨r, hr⟩ : ∃ r, x - j = r + 1 := ⟨x - j - 1, by omega⟩
      rw [hr, Nat.testBit_succ, Nat.testBit_succ, show (1 + 2 * q) / 2 = q by omega, show 2 * q / 2 = q by omega]
      simp
    · rw [decide_eq_false b]; rfl
