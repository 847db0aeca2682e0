/-! LEAVES of the class: names, sets, stands in base 8. -/
def d8 (c t : Nat) : Nat := if t < 4 then c / 2 ^ (9 - 3 * t) % 8 else 0
def cm (c d : Nat) : Bool := !(decide (c % 4 = d % 4) && (decide (2 ≤ c / 4) && decide (2 ≤ d / 4) || decide (c / 4 < 2) && decide (d / 4 < 2) && !(decide (c / 4 = 0) && decide (d / 4 = 0))))
theorem v_isThread {n : Nat} (h : n < 2147483648) (w : Wd) : f_X7_isThread (nI n) w = some (nI (if n < 4 then 1 else 0), w) := by
  rw [e_X7_isThread]
  simp (disch := omega) only [jl, jlt0, jle, ↓reduceIte, jzb0, jzb1]
  by_cases h4 : n < 4
  · rw [if_neg (by omega), if_pos h4]
  · rw [if_pos (by omega), if_neg h4]
theorem v_isThread_neg {x : Int32} (h : x < 0) (w : Wd) : f_X7_isThread x w = some (nI 0, w) := by
  rw [e_X7_isThread, if_pos h]
  simp only [jl, jzb0]
theorem v_isName {n : Nat} (h : n < 2147483648) (w : Wd) : f_X7_isName (nI n) w = some (nI (if n < 4 then 1 else 0), w) := by
  rw [e_X7_isName]
  simp (disch := omega) only [jl, jlt0, jle, ↓reduceIte, jzb0, jzb1]
  by_cases h4 : n < 4
  · rw [if_neg (by omega), if_pos h4]
  · rw [if_pos (by omega), if_neg h4]
theorem v_isName_neg {x : Int32} (h : x < 0) (w : Wd) : f_X7_isName x w = some (nI 0, w) := by
  rw [e_X7_isName, if_pos h]
  simp only [jl, jzb0]
theorem v_isSlot {n : Nat} (h : n < 2147483648) (w : Wd) : f_X7_isSlot (nI n) w = some (nI (if n < 2 then 1 else 0), w) := by
  rw [e_X7_isSlot]
  simp (disch := omega) only [jl, jlt0, jle, ↓reduceIte, jzb0, jzb1]
  by_cases h4 : n < 2
  · rw [if_neg (by omega), if_pos h4]
  · rw [if_pos (by omega), if_neg h4]
theorem v_isSlot_neg {x : Int32} (h : x < 0) (w : Wd) : f_X7_isSlot x w = some (nI 0, w) := by
  rw [e_X7_isSlot, if_pos h]
  simp only [jl, jzb0]
theorem v_setOf {m : Nat} (h : m < 30) (w : Wd) : f_X7_setOf (nI m) w = some (nI (2 ^ m), w) := by
  rw [e_X7_setOf]
  have h2 : 2 ^ m ≤ 2 ^ 29 := Nat.pow_le_pow_right (by decide) (by omega)
  simp only [jl]
  rw [jshl (by omega) (by omega), Nat.one_mul]
theorem v_isIn {m s : Nat} (h : m < 30) (hs : s < 2147483648) (w : Wd) : f_X7_isIn (nI m) (nI s) w = some (nI (if s.testBit m then 1 else 0), w) := by
  rw [e_X7_isIn]
  simp only [jl]
  have h1 : s / 2 ^ m % 2 < 2 := Nat.mod_lt _ (by decide)
  rw [jshr (by omega) hs, jand, Nat.and_one_is_mod]
  simp (disch := omega) only [jeq0, jzb0, jzb1]
  rw [Nat.testBit_eq_decide_div_mod_eq]
  by_cases h0 : s / 2 ^ m % 2 = 0
  · rw [if_pos h0]; simp [h0]
  · have : s / 2 ^ m % 2 = 1 := by omega
    rw [if_neg h0]; simp [this]
theorem v_codeOf {a b : Nat} (ha : a < 4) (hb : b < 4) (w : Wd) : f_X7_codeOf (nI a) (nI b) w = some (nI (4 * a + b), w) := by
  rw [e_X7_codeOf]
  simp only [jl]
  rw [jshl (by omega) (by omega), jor]
  have : ∀ a : Nat, a < 4 → ∀ b : Nat, b < 4 → a * 2 ^ 2 ||| b = 4 * a + b := by decide
  rw [this a ha b hb]
theorem v_kindOf {c : Nat} (h : c < 2147483648) (w : Wd) : f_X7_kindOf (nI c) w = some (nI (c / 4), w) := by
  rw [e_X7_kindOf]
  simp only [jl]
  rw [jshr (by omega) h]
theorem v_kindOf_m1 (w : Wd) : f_X7_kindOf (Int32.ofInt (-1)) w = some (Int32.ofInt (-1), w) := by
  rw [e_X7_kindOf]
  congr 1
theorem v_nameOf {c : Nat} (w : Wd) : f_X7_nameOf (nI c) w = some (nI (c % 4), w) := by
  rw [e_X7_nameOf]
  simp only [jl]
  rw [jand, show (3 : Nat) = 2 ^ 2 - 1 from rfl, Nat.and_two_pow_sub_one_eq_mod]
theorem v_nameOf_m1 (w : Wd) : f_X7_nameOf (Int32.ofInt (-1)) w = some (nI 3, w) := by
  rw [e_X7_nameOf]
  congr 1
theorem v_commute {c d : Nat} (hc : c < 16) (hd : d < 16) (w : Wd) : f_X7_commute (nI c) (nI d) w = some (nI (if cm c d then 1 else 0), w) := by
  rw [e_X7_commute]
  simp (disch := omega) only [v_nameOf, v_kindOf, joc, jl, jeq, jle, jlt, jeq0, jzb0, jzb1, e_X7_commute_33]
  have e1 : (c / 4 < 2) = ¬ (2 ≤ c / 4) := propext (by omega)
  have e2 : (d / 4 < 2) = ¬ (2 ≤ d / 4) := propext (by omega)
  unfold cm
  simp only [e1, e2]
  by_cases h1 : c % 4 = d % 4 <;> by_cases h2 : 2 ≤ c / 4 <;> by_cases h3 : 2 ≤ d / 4 <;> by_cases h4 : c / 4 = 0 <;> by_cases h5 : d / 4 = 0 <;> first
    | (exfalso; omega)
    | simp [h1, h2, h3, h4, h5]
theorem v_doneBy {c t : Nat} (hc : c < 4096) (ht : t < 4) (w : Wd) : f_X7_doneBy (nI c) (nI t) w = some (nI (d8 c t), w) := by
  rw [e_X7_doneBy]
  simp only [jl, jmul]
  rw [jsub (by omega), jshr (by omega) (by omega), jand, show (7 : Nat) = 2 ^ 3 - 1 from rfl, Nat.and_two_pow_sub_one_eq_mod]
  unfold d8
  rw [if_pos ht]
theorem v_standAfter {c t : Nat} (hc : c < 4096) (ht : t < 4) (w : Wd) : f_X7_standAfter (nI c) (nI t) w = some (nI ((c + 2 ^ (9 - 3 * t)) % 4096), w) := by
  rw [e_X7_standAfter]
  have h2 : 2 ^ (9 - 3 * t) ≤ 2 ^ 9 := Nat.pow_le_pow_right (by decide) (by omega)
  simp only [jl, jmul]
  rw [jsub (by omega), jshl (by omega) (by omega), nI_add, jand, show (4095 : Nat) = 2 ^ 12 - 1 from rfl, Nat.and_two_pow_sub_one_eq_mod, Nat.one_mul]
def len4 (s : Nat → Nat) : Nat := s 0 + s 1 + s 2 + s 3
theorem d8_lt (c t : Nat) : d8 c t < 8 := by
  unfold d8
  split
  · exact Nat.mod_lt _ (by decide)
  · decide
theorem v_stepsDone {c : Nat} (hc : c < 4096) (w : Wd) : f_X7_stepsDone (nI c) w = some (nI (len4 (d8 c)), w) := by
  rw [e_X7_stepsDone]
  have h0 := d8_lt c 0
  have h1 := d8_lt c 1
  have h2 := d8_lt c 2
  have h3 := d8_lt c 3
  simp only [jl]
  iterate 4
    rw [e_X7_stepsDone_4]
    simp (disch := omega) only [jl, jle, v_doneBy, joc, nI_add, Nat.reduceLeDiff, ↓reduceIte, Nat.reduceAdd]
  rw [e_X7_stepsDone_4]
  simp (disch := omega) only [jl, jle, Nat.reduceLeDiff, ↓reduceIte, Nat.zero_add]
  rfl
