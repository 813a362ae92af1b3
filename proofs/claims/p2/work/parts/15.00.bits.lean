/-! ===== how many bits a long has, exactly ===== -/
theorem pl_split (k x y m M : Nat) (hx : x < 2 ^ k) (hm : m < 2 ^ k) : (x + 2 ^ k * y) &&& (m + 2 ^ k * M) = (x &&& m) + 2 ^ k * (y &&& M) := by
  have p : 0 < 2 ^ k := Nat.two_pow_pos k
  have h1 : ((x + 2 ^ k * y) &&& (m + 2 ^ k * M)) % 2 ^ k = x &&& m := by
    rw [Nat.and_mod_two_pow, Nat.add_mul_mod_self_left, Nat.add_mul_mod_self_left, Nat.mod_eq_of_lt hx, Nat.mod_eq_of_lt hm]
  have h2 : ((x + 2 ^ k * y) &&& (m + 2 ^ k * M)) / 2 ^ k = y &&& M := by
    rw [Nat.and_div_two_pow, Nat.add_mul_div_left _ _ p, Nat.add_mul_div_left _ _ p, Nat.div_eq_of_lt hx, Nat.div_eq_of_lt hm, Nat.zero_add, Nat.zero_add]
  rw [← Nat.mod_add_div ((x + 2 ^ k * y) &&& (m + 2 ^ k * M)) (2 ^ k), h1, h2]
theorem pl_8 (x y m M : Nat) (hx : x < 256) (hm : m < 256) : (x + 256 * y) &&& (m + 256 * M) = (x &&& m) + 256 * (y &&& M) := pl_split 8 x y m M hx hm
def pl_m (m : Nat) : Nat → Nat | 0 => 0 | L + 1 => m + 256 * pl_m m L
def pl_p (x : Nat) : Nat := x - (x / 2 &&& 85)
def pl_q (x : Nat) : Nat := (pl_p x &&& 51) + (pl_p x / 4 &&& 51)
def pl_r (x : Nat) : Nat := (pl_q x + pl_q x / 16) % 16
def pl_A (L n : Nat) : Nat := n - (n / 2 &&& pl_m 85 L)
def pl_B (L n : Nat) : Nat := (n &&& pl_m 51 L) + (n / 4 &&& pl_m 51 L)
def pl_C (L n : Nat) : Nat := (n + n / 16) &&& pl_m 15 L
theorem pl_d1 : ∀ x, x < 256 → (x / 2 + 128) &&& 85 = x / 2 &&& 85 := by decide +kernel
theorem pl_d2 : ∀ x, x < 256 → x / 2 &&& 85 ≤ x := by decide +kernel
theorem pl_d3 : ∀ x, x < 256 → (x / 4 + 64) &&& 51 = x / 4 &&& 51 := by decide +kernel
theorem pl_d4 : ∀ x, x < 256 → (x / 4 + 128) &&& 51 = x / 4 &&& 51 := by decide +kernel
theorem pl_d5 : ∀ x, x < 256 → (x / 4 + 192) &&& 51 = x / 4 &&& 51 := by decide +kernel
theorem pl_d6 : ∀ x, x < 256 → pl_p x < 256 := by decide +kernel
theorem pl_d7 : ∀ x, x < 256 → pl_q x < 256 := by decide +kernel
theorem pl_d8 : ∀ x, x < 256 → pl_q x % 16 ≤ 4 := by decide +kernel
theorem pl_d9 : ∀ x, x < 256 → pl_q x / 16 ≤ 4 := by decide +kernel
theorem pl_As (L x y : Nat) (hx : x < 256) : pl_A (L + 1) (x + 256 * y) = pl_p x + 256 * pl_A L y := by
  unfold pl_A
  have e : (x + 256 * y) / 2 = (x / 2 + 128 * (y % 2)) + 256 * (y / 2) := by omega
  show x + 256 * y - ((x + 256 * y) / 2 &&& (85 + 256 * pl_m 85 L)) = pl_p x + 256 * (y - (y / 2 &&& pl_m 85 L))
  rw [e, pl_8 _ _ _ _ (by omega) (by omega)]
  have f : (x / 2 + 128 * (y % 2)) &&& 85 = x / 2 &&& 85 := by
    rcases Nat.mod_two_eq_zero_or_one y with h | h
    · rw [h]; rfl
    · rw [h]; exact pl_d1 x hx
  rw [f]
  have g := pl_d2 x hx
  have h : y / 2 &&& pl_m 85 L ≤ y / 2 := Nat.and_le_left
  unfold pl_p
  omega
theorem pl_Bs (L p Y : Nat) (hp : p < 256) : pl_B (L + 1) (p + 256 * Y) = ((p &&& 51) + (p / 4 &&& 51)) + 256 * pl_B L Y := by
  unfold pl_B
  have e : (p + 256 * Y) / 4 = (p / 4 + 64 * (Y % 4)) + 256 * (Y / 4) := by omega
  show ((p + 256 * Y) &&& (51 + 256 * pl_m 51 L)) + ((p + 256 * Y) / 4 &&& (51 + 256 * pl_m 51 L)) = _
  rw [e, pl_8 _ _ _ _ hp (by omega), pl_8 _ _ _ _ (by omega) (by omega)]
  have f : (p / 4 + 64 * (Y % 4)) &&& 51 = p / 4 &&& 51 := by
    have : Y % 4 = 0 ∨ Y % 4 = 1 ∨ Y % 4 = 2 ∨ Y % 4 = 3 := by omega
    rcases this with h | h | h | h <;> rw [h]
    · rfl
    · exact pl_d3 p hp
    · exact pl_d4 p hp
    · exact pl_d5 p hp
  rw [f]
  omega
theorem pl_Cs (L q Y : Nat) (hq : q % 16 ≤ 4) (hq2 : q / 16 ≤ 4) (hY : Y % 16 ≤ 4) : pl_C (L + 1) (q + 256 * Y) = (q + q / 16) % 16 + 256 * pl_C L Y := by
  unfold pl_C
  have e : (q + 256 * Y) + (q + 256 * Y) / 16 = (q + q / 16 + 16 * (Y % 16)) + 256 * (Y + Y / 16) := by omega
  show ((q + 256 * Y) + (q + 256 * Y) / 16) &&& (15 + 256 * pl_m 15 L) = _
  rw [e, pl_8 _ _ _ _ (by omega) (by omega)]
  have f : (q + q / 16 + 16 * (Y % 16)) &&& 15 = (q + q / 16) % 16 := by
    rw [show (15 : Nat) = 2 ^ 4 - 1 by decide, Nat.and_two_pow_sub_one_eq_mod]
    omega
  rw [f]
def pl_n : Nat → Nat → Nat | 0, _ => 0 | L + 1, n => pl_r (n % 256) + 256 * pl_n L (n / 256)
theorem pl_B0 (n : Nat) : pl_B 0 n = 0 := by
  show (n &&& 0) + (n / 4 &&& 0) = 0
  rw [Nat.and_zero, Nat.and_zero]
theorem pl_low : ∀ (L n : Nat), pl_B L (pl_A L n) % 16 ≤ 4
  | 0, n => by rw [pl_B0]; decide
  | L + 1, n => by
    have e : n = n % 256 + 256 * (n / 256) := (Nat.mod_add_div n 256).symm
    have l : n % 256 < 256 := Nat.mod_lt _ (by decide)
    rw [e, pl_As L _ _ l, pl_Bs L _ _ (pl_d6 _ l)]
    have h := pl_d8 _ l
    unfold pl_q at h
    omega
theorem pl_all : ∀ (L n : Nat), pl_C L (pl_B L (pl_A L n)) = pl_n L n
  | 0, n => by
    show _ &&& 0 = 0
    exact Nat.and_zero _
  | L + 1, n => by
    have e : n = n % 256 + 256 * (n / 256) := (Nat.mod_add_div n 256).symm
    have l : n % 256 < 256 := Nat.mod_lt _ (by decide)
    have s : pl_C (L + 1) (pl_B (L + 1) (pl_A (L + 1) (n % 256 + 256 * (n / 256)))) = pl_n (L + 1) n := by
      rw [pl_As L _ _ l, pl_Bs L _ _ (pl_d6 _ l)]
      show pl_C (L + 1) (pl_q (n % 256) + 256 * pl_B L (pl_A L (n / 256))) = _
      rw [pl_Cs L _ _ (pl_d8 _ l) (pl_d9 _ l) (pl_low L _), pl_all L (n / 256)]
      rfl
    rw [← e] at s
    exact s
/-- the bits of the first k places -/
def nb : Nat → Nat → Nat | 0, _ => 0 | k + 1, n => n % 2 + nb k (n / 2)
theorem nb_add : ∀ (a b n : Nat), nb (a + b) n = nb a n + nb b (n / 2 ^ a)
  | 0, b, n => by rw [Nat.zero_add, Nat.pow_zero, Nat.div_one]; exact (Nat.zero_add _).symm
  | a + 1, b, n => by
    rw [show a + 1 + b = (a + b) + 1 by omega]
    show n % 2 + nb (a + b) (n / 2) = n % 2 + nb a (n / 2) + nb b (n / 2 ^ (a + 1))
    rw [nb_add a b (n / 2), Nat.div_div_eq_div_mul, Nat.pow_succ, Nat.mul_comm 2]
    omega
theorem nb_mod : ∀ (k n : Nat), nb k (n % 2 ^ k) = nb k n
  | 0, _ => rfl
  | k + 1, n => by
    show n % 2 ^ (k + 1) % 2 + nb k (n % 2 ^ (k + 1) / 2) = n % 2 + nb k (n / 2)
    have e1 : n % 2 ^ (k + 1) % 2 = n % 2 := Nat.mod_mod_of_dvd n ⟨2 ^ k, by rw [Nat.pow_succ, Nat.mul_comm]⟩
    have e2 : n % 2 ^ (k + 1) / 2 = n / 2 % 2 ^ k := by
      rw [Nat.pow_succ, Nat.mul_comm, Nat.mod_mul_right_div_self]
    rw [e1, e2, nb_mod k]
theorem pl_r8 : ∀ x, x < 256 → pl_r x = nb 8 x := by decide +kernel
theorem pl_rn (n : Nat) : pl_r (n % 256) = nb 8 n := by
  rw [pl_r8 _ (Nat.mod_lt _ (by decide))]
  exact nb_mod 8 n
theorem nb_8 : ∀ x, x < 256 → nb 8 x ≤ 8 := by decide +kernel
theorem nb_8' (n : Nat) : nb 8 n ≤ 8 := by
  rw [← nb_mod 8 n]; exact nb_8 _ (Nat.mod_lt _ (by decide))
theorem pl_fold (n : Nat) : ((pl_n 8 n + pl_n 8 n / 256) + (pl_n 8 n + pl_n 8 n / 256) / 65536 + ((pl_n 8 n + pl_n 8 n / 256) + (pl_n 8 n + pl_n 8 n / 256) / 65536) / 4294967296) % 128 = nb 64 n ∧ pl_n 8 n ≤ 579005069656919567 := by
  have h0 := nb_8' n
  have h1 := nb_8' (n / 256)
  have h2 := nb_8' (n / 256 / 256)
  have h3 := nb_8' (n / 256 / 256 / 256)
  have h4 := nb_8' (n / 256 / 256 / 256 / 256)
  have h5 := nb_8' (n / 256 / 256 / 256 / 256 / 256)
  have h6 := nb_8' (n / 256 / 256 / 256 / 256 / 256 / 256)
  have h7 := nb_8' (n / 256 / 256 / 256 / 256 / 256 / 256 / 256)
  have e : pl_n 8 n = nb 8 n + 256 * (nb 8 (n / 256) + 256 * (nb 8 (n / 256 / 256) + 256 * (nb 8 (n / 256 / 256 / 256) + 256 * (nb 8 (n / 256 / 256 / 256 / 256) + 256 * (nb 8 (n / 256 / 256 / 256 / 256 / 256) + 256 * (nb 8 (n / 256 / 256 / 256 / 256 / 256 / 256) + 256 * (nb 8 (n / 256 / 256 / 256 / 256 / 256 / 256 / 256) + 256 * 0))))))) := by
    simp only [pl_n, pl_rn]
  have f : nb 64 n = nb 8 n + (nb 8 (n / 256) + (nb 8 (n / 256 / 256) + (nb 8 (n / 256 / 256 / 256) + (nb 8 (n / 256 / 256 / 256 / 256) + (nb 8 (n / 256 / 256 / 256 / 256 / 256) + (nb 8 (n / 256 / 256 / 256 / 256 / 256 / 256) + nb 8 (n / 256 / 256 / 256 / 256 / 256 / 256 / 256))))))) := by
    have s : ∀ b k, nb (8 + b) k = nb 8 k + nb b (k / 256) := fun b k => nb_add 8 b k
    show nb (8 + (8 + (8 + (8 + (8 + (8 + (8 + 8))))))) n = _
    rw [s, s, s, s, s, s, s]
  rw [f]
  generalize nb 8 n = c0 at *
  generalize nb 8 (n / 256) = c1 at *
  generalize nb 8 (n / 256 / 256) = c2 at *
  generalize nb 8 (n / 256 / 256 / 256) = c3 at *
  generalize nb 8 (n / 256 / 256 / 256 / 256) = c4 at *
  generalize nb 8 (n / 256 / 256 / 256 / 256 / 256) = c5 at *
  generalize nb 8 (n / 256 / 256 / 256 / 256 / 256 / 256) = c6 at *
  generalize nb 8 (n / 256 / 256 / 256 / 256 / 256 / 256 / 256) = c7 at *
  rw [e]
  clear e f
  constructor
  · have q1 : (c0 + 256 * (c1 + 256 * (c2 + 256 * (c3 + 256 * (c4 + 256 * (c5 + 256 * (c6 + 256 * (c7 + 256 * 0)))))))) / 256 = c1 + 256 * (c2 + 256 * (c3 + 256 * (c4 + 256 * (c5 + 256 * (c6 + 256 * c7))))) := by omega
    rw [q1]
    obtain ⟨R, hR⟩ : ∃ R, R = (c2 + c3) + 256 * ((c3 + c4) + 256 * ((c4 + c5) + 256 * ((c5 + c6) + 256 * ((c6 + c7) + 256 * c7)))) := ⟨_, rfl⟩
    obtain ⟨S, hS⟩ : ∃ S, S = (c4 + c5 + c6 + c7) + 256 * ((c5 + c6 + c7) + 256 * ((c6 + c7) + 256 * c7)) := ⟨_, rfl⟩
    obtain ⟨V, hV⟩ : ∃ V, V = c0 + 256 * (c1 + 256 * (c2 + 256 * (c3 + 256 * (c4 + 256 * (c5 + 256 * (c6 + 256 * (c7 + 256 * 0))))))) + (c1 + 256 * (c2 + 256 * (c3 + 256 * (c4 + 256 * (c5 + 256 * (c6 + 256 * c7)))))) := ⟨_, rfl⟩
    rw [← hV]
    have v1 : V = (c0 + c1) + 256 * ((c1 + c2) + 256 * R) := by omega
    have v2 : V / 65536 = R := by rw [v1]; clear hV hR hS; omega
    rw [v2]
    have v3 : V + R = (c0 + c1 + c2 + c3) + 256 * ((c1 + c2 + c3 + c4) + 256 * ((c2 + c3 + c4 + c5) + 256 * ((c3 + c4 + c5 + c6) + 256 * S))) := by omega
    have v4 : (V + R) / 4294967296 = S := by rw [v3]; clear hV hR hS v1 v2 v3; omega
    rw [v4, v3]
    have v5 : ∀ X, (c0 + c1 + c2 + c3) + 256 * X + S = (c0 + c1 + c2 + c3) + (c4 + c5 + c6 + c7) + 128 * (2 * X + 2 * ((c5 + c6 + c7) + 256 * ((c6 + c7) + 256 * c7))) := by intro X; omega
    rw [v5, Nat.add_mul_mod_self_left]
    clear hV hR hS v1 v2 v3 v4 v5
    omega
  · omega
