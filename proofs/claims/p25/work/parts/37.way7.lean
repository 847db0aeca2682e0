/-! A WAY TO A NEAREST DEADLOCK: the reference. -/
section W7S
variable {L : Nat → Nat} {P : Nat → Nat → Nat}
def S36 : Nat → Nat → Bool := S1 36 0
def pv (L : Nat → Nat) (P : Nat → Nat → Nat) : Nat → Int32
  | 0 => Int32.ofInt (-6)
  | i + 1 => nI (ltN L P (psN L P i))
def SMw : Nat → Nat → Bool := S2 SMx S36
theorem ofInt_lt0 {x : Int32} (h : x < 0) : ¬ Int32.ofInt (-1) ≤ x ∨ x = Int32.ofInt (-1) := by
  by_cases h1 : Int32.ofInt (-1) ≤ x
  · right
    apply Int32.toInt_inj.mp
    rw [Int32.le_iff_toInt_le] at h1
    rw [Int32.lt_iff_toInt_lt] at h
    rw [show (Int32.ofInt (-1)).toInt = -1 from by decide] at h1 ⊢
    rw [show (0 : Int32).toInt = 0 from by decide] at h
    omega
  · exact Or.inl h1
end W7S
