/-! a tally that goes up and down: 2^32 + ups - downs -/
theorem tly_0 : nI 4294967296 = 0 := by decide
theorem tly_z {a b : Nat} (ha : a < 1000) (hb : b < 1000) : nI (4294967296 + a - b) = 0 ↔ a = b := by
  constructor
  · intro h
    have e : nI (4294967296 + a - b) + nI b = nI (4294967296 + a) := by rw [nI_add, show 4294967296 + a - b + b = 4294967296 + a by omega]
    rw [h, ← nI_add, tly_0, show (0 : Int32) = nI 0 from rfl, nI_add, nI_add, Nat.zero_add, Nat.zero_add] at e
    exact ((nI_eq (by omega) (by omega)).mp e).symm
  · rintro rfl
    rw [show 4294967296 + a - a = 4294967296 by omega]
    exact tly_0
