theorem or4_lt {f : Nat → Nat} (h : ∀ u, f u < 16) : or4 f < 16 := Nat.or_lt_two_pow (n := 4) (Nat.or_lt_two_pow (Nat.or_lt_two_pow (h 0) (h 1)) (h 2)) (h 3)
theorem nI_inj {a b : Nat} (ha : a < 2147483648) (hb : b < 2147483648) (h : nI a = nI b) : a = b := (nI_eq ha hb).mp h
theorem j01 (b : Bool) : (nI (if b = true then 1 else 0) = (0 : Int32)) = (b = false) := by
  cases b
  · exact eq_true rfl |>.trans (by simp)
  · rw [jeq0 (by decide)]; simp