/-! WITHOUT A LOCK: the reference; copying states. -/
def sz (k : Nat) : Nat := if k = 1 then 318 else if k = 2 then 106 else 53
theorem sz_le (k : Nat) : sz k ≤ 318 := by
  unfold sz
  split
  · decide
  · split <;> decide
section WO7
variable {L : Nat → Nat} {P : Nat → Nat → Nat} {l : Nat}
def S30 : Nat → Nat → Bool := S1 30 0
def SMo : Nat → Nat → Bool := S2 SMx (S2 S30 (S1 30 3))
def SWo : Nat → Nat → Bool := S2 (SPg 9) SSp
end WO7
