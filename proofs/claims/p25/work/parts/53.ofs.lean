/-! ofStep and count alike. -/
section OS
variable {L : Nat → Nat} {P : Nat → Nat → Nat}
theorem jneN {x : Int32} {b : Nat} (h : x < 0 ∨ ∃ q, q < 2147483648 ∧ x = nI q ∧ b ≤ q) (hb : b < 2147483648) : ∀ a, a < b → ¬ x = nI a := fun a ha e => by
  rcases h with h | ⟨q, hq, rfl, h3⟩
  · rw [e] at h
    exact nI_pos (show a < 2 ^ 31 by omega) h
  · have := nI_inj hq (by omega) e
    omega
/-- any value is small, or none of the small ones -/
theorem jsml (x : Int32) (b : Nat) : (x < 0 ∨ ∃ q, q < 2147483648 ∧ x = nI q ∧ b ≤ q) ∨ ∃ q, q < b ∧ q < 2147483648 ∧ x = nI q := by
  rcases jnat x with hx | ⟨q, hq, rfl⟩
  · exact Or.inl (Or.inl hx)
  · by_cases h : b ≤ q
    · exact Or.inl (Or.inr ⟨q, hq, rfl, h⟩)
    · exact Or.inr ⟨q, by omega, hq, rfl⟩
theorem v_stepOf_t {w : Wd} {x y : Int32} (h : x < 0 ∨ ∃ q, q < 2147483648 ∧ x = nI q ∧ 4 ≤ q) : f_X2_stepOf 0 x y w = some (Int32.ofInt (-1), w) := by
  rw [e_X2_stepOf]
  rcases h with h | ⟨q, hq, rfl, h4⟩
  · rw [if_pos h]
  · simp (disch := omega) only [jlt0, ↓reduceIte, jl, jle]
    rw [if_pos (by omega)]
theorem v_stepOf_s {w : Wd} (hR : RP w 0 L P) (hW : WP L P) {t : Nat} (ht : t < 4) {y : Int32} (h : y < 0 ∨ ∃ q, q < 2147483648 ∧ y = nI q ∧ L t ≤ q) : f_X2_stepOf 0 (nI t) y w = some (Int32.ofInt (-1), w) := by
  rcases h with h | ⟨q, hq, rfl, h4⟩
  · rw [e_X2_stepOf]
    simp (disch := omega) only [jlt0, ↓reduceIte, jl, jle]
    rw [if_neg (by omega), if_pos h]
  · exact v_stepOf_no hR hW ht h4 hq
theorem v_isThread_b {x : Int32} (h : x < 0 ∨ ∃ q, q < 2147483648 ∧ x = nI q ∧ 4 ≤ q) (w : Wd) : f_X7_isThread x w = some (nI 0, w) := by
  rcases h with h | ⟨q, hq, rfl, h4⟩
  · exact v_isThread_neg h w
  · rw [v_isThread hq, if_neg (by omega)]
end OS
