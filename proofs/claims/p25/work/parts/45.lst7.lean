/-! THE LEAST RUN, chains, and how many orders: the reference. -/
section L7
variable {L : Nat → Nat} {P : Nat → Nat → Nat} {R : Nat → Nat} {n : Nat}
def fr (P : Nat → Nat → Nat) (R : Nat → Nat) (s : Nat → Nat) (k j : Nat) : Bool := !decide (wh R k < s (R k)) && alT P R s k j
theorem alT_wh {s : Nat → Nat} {k : Nat} (h : alT P R s k k = true) : wh R k ≤ s (R k) := by
  by_cases hle : wh R k ≤ s (R k)
  · exact hle
  · exfalso
    obtain ⟨j, h1, h2, h3⟩ := ix_ex (R := R) (t := R k) (s := s (R k)) k (by
      show s (R k) < wh R k
      omega)
    have ht : td P R j k = true := by unfold td; simp [h2]
    have := (alT_iff k).mp h j h1 ht
    rw [h2, h3] at this
    omega
theorem fr_cn {s : Nat → Nat} {k : Nat} : fr P R s k k = cnB P R s k := by
  unfold fr cnB
  cases h : alT P R s k k with
  | false => simp
  | true =>
    have := alT_wh h
    by_cases e : wh R k = s (R k)
    · simp [e]
    · have : wh R k < s (R k) := by omega
      simp [e, this]
/-- what is taken -/
def TK (w : Wd) (n : Nat) (R : Nat → Nat) (s : Nat → Nat) : Prop := ∀ j, j < n → w.1 40 0 j = nI (if decide (wh R j < s (R j)) = true then 1 else 0)
/-- the best of those seen -/
def BT (P : Nat → Nat → Nat) (R : Nat → Nat) (s : Nat → Nat) (k : Nat) (x : Int32) : Prop := (x = Int32.ofInt (-6) ∧ ∀ j, j < k → cnB P R s j = false) ∨ ∃ b, x = nI b ∧ b < k ∧ cnB P R s b = true ∧ ∀ j, j < k → cnB P R s j = true → R b ≤ R j
def S3940 : Nat → Nat → Bool := S2 (S1 39 0) (S1 40 0)
/-! chains -/
def S39 : Nat → Nat → Bool := S1 39 0
end L7
