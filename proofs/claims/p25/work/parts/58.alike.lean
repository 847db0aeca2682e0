/-! alike, alike. -/
section AK
variable {L : Nat → Nat} {P : Nat → Nat → Nat}
def eqU (a b : Nat → Nat) : Nat → Bool
  | 0 => true
  | k + 1 => eqU a b k && decide (a k = b k)
theorem eqU_no {a b : Nat → Nat} {k n : Nat} (h : a k ≠ b k) (hk : k < n) : eqU a b n = false := by
  induction n with
  | zero => omega
  | succ n ih =>
    rw [eqU]
    by_cases e : k = n
    · rw [← e]; simp [h]
    · rw [ih (by omega)]; rfl
theorem v_sameR {w : Wd} {k0 k1 n m : Nat} {A B : Nat → Nat} (hA : RR w k0 n A) (hB : RR w k1 m B) (hn : n ≤ 24) (hm : m ≤ 24) (ha : ∀ i, i < n → A i < 4) (hb : ∀ i, i < m → B i < 4) : f_X3_sameAs k0 k1 w = some (nI (if (decide (n = m) && eqU A B n) = true then 1 else 0), w) := by
  rw [e_X3_sameAs, hA.1, hB.1]
  simp (disch := omega) only [jeq, jl, jzb0]
  by_cases e : n = m
  · subst e
    rw [if_pos rfl]
    have lp : ∀ (c i : Nat), c + i = n → eqU A B i = true → x_X3_sameAs 15 [] [some (zr 3 k0), some (zr 3 k1), some (zi (nI i))] w = some (nI (if eqU A B n = true then 1 else 0), w) := by
      intro c
      induction c with
      | zero =>
        intro i hi he
        rw [e_X3_sameAs_15, hA.1]
        simp (disch := omega) only [jle, jl, jzb1]
        rw [if_pos (by omega), show n = i by omega, he]
        rfl
      | succ c ih =>
        intro i hi he
        have hin : i < n := by omega
        have h1 := ha i hin
        have h2 := hb i hin
        rw [e_X3_sameAs_15, hA.1]
        simp (disch := omega) only [jle, jl, jzb0, jchk, jcl, hA.2 i hin, hB.2 i hin, jeq, nI_add]
        rw [if_neg (by omega)]
        by_cases e : A i = B i
        · rw [if_pos e]
          exact ih (i + 1) (by omega) (by rw [eqU, he]; simp [e])
        · rw [if_neg e, eqU_no e hin]
          rfl
    rw [lp n 0 rfl rfl]
    simp
  · rw [if_neg e]
    simp [e]
theorem RR_fr {T : Nat → Nat → Bool} {w w' : Wd} {k n : Nat} {R : Nat → Nat} (hf : Fr T w w') (h1 : T 3 k = false) (h2 : T 13 k = false) (h : RR w k n R) : RR w' k n R := ⟨by rw [(hf 3 k h1).1]; exact h.1, fun i hi => by rw [(hf 13 k h2).1]; exact h.2 i hi⟩
end AK
