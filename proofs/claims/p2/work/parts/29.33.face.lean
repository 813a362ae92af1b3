/-! ===== FACES: the class's bits are the reference's faces ===== -/
def hfB (x y : Nat) : Bool := Nat.beq (hq_pop x) (hq_pop y + 1) && Nat.beq (y &&& x) y
def hfA : Nat → Nat → Nat → Bool
  | 0, _, _ => false
  | l + 1, x, y => (x.testBit l && Nat.beq (y + 2 ^ l) x) || hfA l x y
def hfQ (x y : Nat) : Bool := hfB x y == hfA 8 x y
theorem hfK : hq_allB (fun x => hq_allB (hfQ x) 256) 256 = true := by decide +kernel
