/-! FAULTS of a text; wipe. -/
section FT
def kd (s : Nat) : Nat := if s = 114 then 0 else if s = 119 then 1 else if s = 108 then 2 else if s = 117 then 3 else 4
def dg (s : Nat) : Bool := decide (48 ≤ s) && decide (s ≤ 51)
variable {p : Nat} {S : Nat → Nat} {w wm : Wd}
theorem v_signAt (hS : SK p S) (hX : PX w p S) {i : Nat} (hi : i < p) : f_X1_signAt 0 (nI i) w = some (nI (S i), w) := by
  have := hS.1
  rw [e_X1_signAt, hX.1]
  simp (disch := omega) only [jlt0, ↓reduceIte, jle, jchk, jcl, hX.2 i hi]
  rw [if_neg (by omega)]
theorem v_kindAt (hS : SK p S) (hX : PX w p S) {i : Nat} (hi : i < p) : f_X1_kindAt 0 (nI i) w = some (if kd (S i) < 4 then nI (kd (S i)) else Int32.ofInt (-1), w) := by
  have hs := hS.2 i hi
  rw [e_X1_kindAt, v_signAt hS hX hi]
  simp (disch := omega) only [joc, jl, jeq]
  unfold kd
  by_cases h1 : S i = 108
  · simp [h1]
  · by_cases h2 : S i = 114
    · simp [h2]
    · by_cases h3 : S i = 117
      · simp [h3]
      · by_cases h4 : S i = 119
        · simp [h4]
        · simp [h1, h2, h3, h4]
theorem v_isDigit (hS : SK p S) (hX : PX w p S) {i : Nat} (hi : i < p) : f_X1_isDigitAt 0 (nI i) w = some (nI (if dg (S i) = true then 1 else 0), w) := by
  have hs := hS.2 i hi
  rw [e_X1_isDigitAt]
  simp (disch := omega) only [v_signAt hS hX hi, joc, jl, jlt, jzb0, jzb1]
  unfold dg
  by_cases h1 : S i < 48
  · rw [if_pos h1]
    simp [show ¬ 48 ≤ S i by omega]
  · rw [if_neg h1]
    by_cases h2 : 51 < S i
    · rw [if_pos h2]
      simp [show ¬ S i ≤ 51 by omega]
    · rw [if_neg h2]
      simp [show 48 ≤ S i by omega, show S i ≤ 51 by omega]
theorem v_digitAt (hS : SK p S) (hX : PX w p S) {i : Nat} (hi : i < p) (hd : dg (S i) = true) : f_X1_digitAt 0 (nI i) w = some (nI (S i - 48), w) := by
  unfold dg at hd
  rw [Bool.and_eq_true] at hd
  have := of_decide_eq_true hd.1
  rw [e_X1_digitAt, v_signAt hS hX hi, joc]
  simp (disch := omega) only [jl, jsub]
def okR (p : Nat) (S : Nat → Nat) : Prop := p ≤ 24 ∧ ∀ j, j < p → dg (S j) = true
def okP (p : Nat) (S : Nat → Nat) : Prop := p ≤ 12 ∧ p % 2 = 0 ∧ ∀ j, j < p → if j % 2 = 0 then kd (S j) < 4 else dg (S j) = true
end FT
