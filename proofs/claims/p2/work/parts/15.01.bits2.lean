/-! ===== bits of a long: Long.bitCount, one bit, the lowest one ===== -/
def un (x : Int64) : Nat := x.toUInt64.toNat
theorem un_lt (x : Int64) : un x < 18446744073709551616 := x.toUInt64.toNat_lt
theorem un_inj {x y : Int64} (h : un x = un y) : x = y := congrArg UInt64.toInt64 (UInt64.toNat_inj.mp h)
theorem un_add (x y : Int64) : un (x + y) = (un x + un y) % 18446744073709551616 := by
  show (x.toUInt64 + y.toUInt64).toNat = _
  exact UInt64.toNat_add _ _
theorem un_sub {x y : Int64} (h : un y ≤ un x) : un (x - y) = un x - un y := by
  show (x.toUInt64 - y.toUInt64).toNat = _
  exact UInt64.toNat_sub_of_le _ _ (UInt64.le_iff_toNat_le.mpr h)
theorem un_and (x y : Int64) : un (x &&& y) = un x &&& un y := by
  show (x.toUInt64 &&& y.toUInt64).toNat = _
  exact UInt64.toNat_and _ _
theorem un_or (x y : Int64) : un (x ||| y) = un x ||| un y := by
  show (x.toUInt64 ||| y.toUInt64).toNat = _
  exact UInt64.toNat_or _ _
theorem un_xor (x y : Int64) : un (x ^^^ y) = un x ^^^ un y := by
  show (x.toUInt64 ^^^ y.toUInt64).toNat = _
  exact UInt64.toNat_xor _ _
theorem un_shr (x : Int64) (s : UInt64) (k : Nat) (h : s.toNat % 64 = k) : un (x.toUInt64 >>> s).toInt64 = un x / 2 ^ k := by
  show (x.toUInt64 >>> s).toNat = _
  rw [UInt64.toNat_shiftRight, h, Nat.shiftRight_eq_div_pow]; rfl
theorem un_32 (x : Int64) : x.toInt32.toBitVec.toNat % 2 ^ 7 = un x % 128 := by
  show (x.toBitVec.signExtend 32).toNat % 2 ^ 7 = x.toBitVec.toNat % 128
  rw [BitVec.signExtend_eq_setWidth_of_le _ (by decide), BitVec.toNat_setWidth]
  omega
theorem hw_bc64 {K : Nat} {v : Int64} {Q : Int32 → Prop} (hK : 1 ≤ K) (h : Q (nI (nb 64 (un v)))) : wqJ13_bitCount_95d88 K v Q := by
  obtain ⟨K, rfl⟩ : ∃ K', K = K' + 1 := ⟨K - 1, by omega⟩
  show wbJ13_bitCount_95d88_0 (wpJ13_bitCount_95d88 K) K (fun _ => 0) (uI (fun _ => 0) 0 v) Q
  intro v1 e1 v2 e2 v3 e3 v4 e4 v5 e5 v6 e6 v7 e7 v8 e8 v9 e9 v10 e10 v11 e11 v12 e12 v13 e13 v14 e14 v15 e15 v16 e16 v17 e17 v18 e18
  have m85 : un 6148914691236517205 = pl_m 85 8 := by decide
  have m51 : un 3689348814741910323 = pl_m 51 8 := by decide
  have m15 : un 1085102592571150095 = pl_m 15 8 := by decide
  have b85 : pl_m 85 8 = 6148914691236517205 := by decide
  have b51 : pl_m 51 8 = 3689348814741910323 := by decide
  have b15 : pl_m 15 8 = 1085102592571150095 := by decide
  have e1 : v1 = (v.toUInt64 >>> ((1 : Int32).toInt64.toUInt64 &&& Int64.toUInt64 63)).toInt64 := e1
  have f1 : un v1 = un v / 2 ^ 1 := by rw [e1]; exact un_shr v _ 1 (by decide)
  have f2 : un v2 = un v / 2 &&& pl_m 85 8 := by rw [e2, un_and, f1, m85]
  have l2 : un v2 ≤ un v := by
    rw [f2]
    exact Nat.le_trans Nat.and_le_left (Nat.div_le_self _ _)
  have e3 : v3 = v - v2 := e3
  have f3 : un v3 = pl_A 8 (un v) := by rw [e3, un_sub l2, f2]; rfl
  have f4 : un v4 = pl_A 8 (un v) &&& pl_m 51 8 := by rw [e4, un_and, f3, m51]
  have f5 : un v5 = pl_A 8 (un v) / 2 ^ 2 := by rw [e5, ← f3]; exact un_shr v3 _ 2 (by decide)
  have f6 : un v6 = pl_A 8 (un v) / 4 &&& pl_m 51 8 := by rw [e6, un_and, f5, m51]
  have l4 : un v4 ≤ 3689348814741910323 := by rw [f4, ← b51]; exact Nat.and_le_right
  have l6 : un v6 ≤ 3689348814741910323 := by rw [f6, ← b51]; exact Nat.and_le_right
  have f7 : un v7 = pl_B 8 (pl_A 8 (un v)) := by
    rw [e7, un_add, Nat.mod_eq_of_lt (by omega), f4, f6]; rfl
  have l7 : un v7 ≤ 7378697629483820646 := by rw [e7, un_add, Nat.mod_eq_of_lt (by omega)]; omega
  have f8 : un v8 = un v7 / 2 ^ 4 := by rw [e8]; exact un_shr v7 _ 4 (by decide)
  have f9 : un v9 = un v7 + un v7 / 16 := by
    rw [e9, un_add, f8, Nat.mod_eq_of_lt (by omega)]
  have f10 : un v10 = pl_n 8 (un v) := by
    rw [e10, un_and, f9, f7, m15, ← pl_all]; rfl
  obtain ⟨g1, g2⟩ := pl_fold (un v)
  rw [← f10] at g1 g2
  have f11 : un v11 = un v10 / 2 ^ 8 := by rw [e11]; exact un_shr v10 _ 8 (by decide)
  have f12 : un v12 = un v10 + un v10 / 256 := by rw [e12, un_add, f11, Nat.mod_eq_of_lt (by omega)]
  have f13 : un v13 = un v12 / 2 ^ 16 := by rw [e13]; exact un_shr v12 _ 16 (by decide)
  have f14 : un v14 = un v12 + un v12 / 65536 := by rw [e14, un_add, f13, Nat.mod_eq_of_lt (by omega)]
  have f15 : un v15 = un v14 / 2 ^ 32 := by rw [e15]; exact un_shr v14 _ 32 (by decide)
  have f16 : un v16 = un v14 + un v14 / 4294967296 := by rw [e16, un_add, f15, Nat.mod_eq_of_lt (by omega)]
  have f18 : v18 = nI (nb 64 (un v)) := by
    rw [e18, e17, pk_and v16.toInt32 (m := 127) 7 (by decide), un_32, f16, f14, f12, g1]
  rw [f18]; exact h
/-- whether a set has a number -/
def hb (v : Int64) (k : Nat) : Bool := (un v).testBit k
theorem un_one : un 1 = 1 := by decide
theorem hw_s : ∀ k, k < 64 → ((nI k).toInt64.toUInt64 &&& Int64.toUInt64 63).toNat % 64 = k := by decide +kernel
theorem hw_isIn {K k : Nat} {v : Int64} {Q : Int32 → Prop} (hk : k < 64) (hK : 1 ≤ K) (h1 : hb v k = true → Q 1) (h0 : hb v k = false → Q 0) : wqX11_isIn K v (nI k) Q := by
  obtain ⟨K, rfl⟩ : ∃ K', K = K' + 1 := ⟨K - 1, by omega⟩
  intro v1 e1 v2 e2 v3 e3
  have s : ((nI k).toInt64.toUInt64 &&& Int64.toUInt64 63).toNat % 64 = k := by
    have := hw_s k hk
    exact this
  have e1 : v1 = (v.toUInt64 >>> ((nI k).toInt64.toUInt64 &&& Int64.toUInt64 63)).toInt64 := e1
  have f1 : un v1 = un v / 2 ^ k := by rw [e1]; exact un_shr v _ k s
  have f2 : un v2 = un v / 2 ^ k % 2 := by
    rw [e2, un_and, f1, un_one, Nat.and_one_is_mod]
  have t : hb v k = decide (un v2 = 1) := by
    unfold hb
    rw [f2, Nat.testBit_eq_decide_div_mod_eq]
  refine ⟨fun z => h0 ?_, fun z => h1 ?_⟩
  · have z : v2 = 0 := (hs_cmp0 _ _).mp (e3.symm.trans z)
    rw [t, z]; decide
  · have z : ¬ v2 = 0 := fun q => z (e3.trans ((hs_cmp0 _ _).mpr q))
    have z : un v2 ≠ 0 := fun q => z (un_inj (q.trans (by decide)))
    rw [t]
    exact decide_eq_true (by omega)
theorem hw_1k : ∀ k, k < 64 → un ((1 : Int64) <<< ((nI k).toInt64 &&& 63)) = 2 ^ k := by decide +kernel
theorem hw_bit {K k : Nat} {Q : Int64 → Prop} (hk : k < 64) (hK : 1 ≤ K) (h : ∀ v, un v = 2 ^ k → Q v) : wqX11_bit K (nI k) Q := by
  obtain ⟨K, rfl⟩ : ∃ K', K = K' + 1 := ⟨K - 1, by omega⟩
  intro v1 e1
  refine h v1 ?_
  rw [e1]; exact hw_1k k hk
theorem hb_or (v w : Int64) (k : Nat) : hb (v ||| w) k = (hb v k || hb w k) := by
  unfold hb; rw [un_or, Nat.testBit_or]
theorem hb_and (v w : Int64) (k : Nat) : hb (v &&& w) k = (hb v k && hb w k) := by
  unfold hb; rw [un_and, Nat.testBit_and]
theorem un_m1 : un (-1) = 2 ^ 64 - 1 := by decide
theorem hb_not (v : Int64) {k : Nat} (hk : k < 64) : hb (v ^^^ (-1)) k = !hb v k := by
  unfold hb
  rw [un_xor, un_m1, Nat.testBit_xor, Nat.testBit_two_pow_sub_one, decide_eq_true hk, Bool.xor_true]
theorem hb_one {w : Int64} {j : Nat} (h : un w = 2 ^ j) (k : Nat) : hb w k = decide (j = k) := by
  unfold hb
  rw [h, Nat.testBit_two_pow]
theorem hb_0 (k : Nat) : hb 0 k = false := by
  unfold hb
  rw [show un 0 = 0 by decide, Nat.zero_testBit]
theorem hb_big {v : Int64} {k : Nat} (h : 64 ≤ k) : hb v k = false := by
  unfold hb
  refine Nat.testBit_lt_two_pow (Nat.lt_of_lt_of_le (un_lt v) ?_)
  exact Nat.le_trans (by decide : 18446744073709551616 ≤ 2 ^ 64) (Nat.pow_le_pow_right (by decide : 0 < 2) h)
theorem hb_ne {v : Int64} : v = 0 ∨ ∃ k, k < 64 ∧ hb v k = true ∧ ∀ i, i < k → hb v i = false := by
  by_cases h : ∃ k, hb v k = true
  · obtain ⟨k, hk, hl⟩ := pk_least (fun k => hb v k = true) h
    refine Or.inr ⟨k, Nat.lt_of_not_le (fun q => ?_), hk, fun i hi => ?_⟩
    · rw [hb_big q] at hk; exact absurd hk (by decide)
    · cases q : hb v i with
      | false => rfl
      | true => exact absurd q (hl i hi)
  · refine Or.inl (un_inj (Nat.eq_of_testBit_eq (fun i => ?_)))
    rw [show un 0 = 0 by decide, Nat.zero_testBit]
    cases q : (un v).testBit i with
    | false => rfl
    | true => exact absurd ⟨i, q⟩ h
theorem nb_ones : ∀ j, j < 65 → nb 64 (2 ^ j - 1) = j := by decide +kernel
theorem pl_comp {w q : Nat} (h : q < 2 ^ w) : q &&& (2 ^ w - (q + 1)) = 0 := by
  refine Nat.eq_of_testBit_eq (fun i => ?_)
  rw [Nat.testBit_and, Nat.testBit_two_pow_sub_succ h, Nat.zero_testBit]
  cases q.testBit i <;> simp
theorem pl_lowest {n j : Nat} (hn : n < 2 ^ 64) (hj : j < 64) (h1 : n.testBit j = true) (h0 : ∀ i, i < j → n.testBit i = false) : n &&& (2 ^ 64 - n) = 2 ^ j := by
  have e0 : n % 2 ^ j = 0 := by
    refine Nat.eq_of_testBit_eq (fun i => ?_)
    rw [Nat.testBit_mod_two_pow, Nat.zero_testBit]
    by_cases q : i < j
    · rw [h0 i q, Bool.and_false]
    · rw [decide_eq_false q, Bool.false_and]
  have e1 : n / 2 ^ j % 2 = 1 := by
    rw [Nat.testBit_eq_decide_div_mod_eq] at h1
    exact of_decide_eq_true h1
  have en : n = 0 + 2 ^ j * (1 + 2 * (n / 2 ^ j / 2)) := by
    have a := Nat.mod_add_div n (2 ^ j)
    have b := Nat.mod_add_div (n / 2 ^ j) 2
    rw [e1] at b
    rw [b, ← e0]
    exact a.symm
  obtain ⟨q, hq⟩ : ∃ q, q = n / 2 ^ j / 2 := ⟨_, rfl⟩
  rw [← hq] at en
  have pw : 2 ^ 64 = 2 ^ j * (2 * 2 ^ (63 - j)) := by
    rw [← Nat.pow_succ', ← Nat.pow_add]
    congr 1
    omega
  have lq : q < 2 ^ (63 - j) := by
    rw [pw, en, Nat.zero_add] at hn
    have := Nat.lt_of_mul_lt_mul_left hn
    omega
  have en2 : 2 ^ 64 - n = 0 + 2 ^ j * (1 + 2 * (2 ^ (63 - j) - (q + 1))) := by
    rw [pw, en, Nat.zero_add, Nat.zero_add, ← Nat.mul_sub]
    congr 1
    omega
  rw [en2]
  have l : (0 : Nat) < 2 ^ j := Nat.two_pow_pos j
  have s1 := pl_split j 0 (1 + 2 * q) 0 (1 + 2 * (2 ^ (63 - j) - (q + 1))) l l
  have s2 := pl_split 1 1 q 1 (2 ^ (63 - j) - (q + 1)) (by decide) (by decide)
  rw [pl_comp lq] at s2
  have s2 : (1 + 2 * q) &&& (1 + 2 * (2 ^ (63 - j) - (q + 1))) = 1 := s2
  rw [s2] at s1
  rw [← en] at s1
  rw [s1]
  simp
theorem un_neg (v : Int64) (h : un v ≠ 0) : un (-v) = 2 ^ 64 - un v := by
  show (-v.toUInt64).toNat = _
  rw [UInt64.toNat_neg]
  have := un_lt v
  show (2 ^ 64 - un v) % 2 ^ 64 = _
  exact Nat.mod_eq_of_lt (by omega)
theorem hw_lowest {K j : Nat} {v : Int64} {Q : Int32 → Prop} (hj : j < 64) (h1 : hb v j = true) (h0 : ∀ i, i < j → hb v i = false) (hK : 2 ≤ K) (h : Q (nI j)) : wqX11_lowest K v Q := by
  obtain ⟨K, rfl⟩ : ∃ K', K = K' + 1 := ⟨K - 1, by omega⟩
  show wbX11_lowest_0 (wpX11_lowest K) K (fun _ => 0) (uI (fun _ => 0) 0 v) Q
  intro v1 e1 v2 e2 v3 e3
  have nz : un v ≠ 0 := by
    intro q
    unfold hb at h1
    rw [q, Nat.zero_testBit] at h1
    exact absurd h1 (by decide)
  have e1 : v1 = -v := e1
  have e2 : v2 = v &&& v1 := e2
  have f2 : un v2 = 2 ^ j := by
    rw [e2, un_and, e1, un_neg v nz]
    exact pl_lowest (un_lt v) hj h1 h0
  have f3 : un v3 = 2 ^ j - 1 := by
    have p : 0 < 2 ^ j := Nat.two_pow_pos j
    rw [e3, un_sub (by rw [f2, un_one]; exact p), f2, un_one]
  refine hw_bc64 (by omega) (fun v5 e5 => ?_)
  rw [f3, nb_ones j (by omega)] at e5
  have e5 : v5 = nI j := by
    rw [e5, pk_andN (by omega) (m := 63) 6 (by decide), Nat.mod_eq_of_lt (by omega)]
  rw [e5]; exact h
