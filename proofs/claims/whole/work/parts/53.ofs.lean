/-! ofStep and count alike. -/
section OS
variable {L : Nat → Nat} {P : Nat → Nat → Nat}
theorem jneN {x : Int32} {b : Nat} (h : x < 0 ∨ ∃ q, q < 2147483648 ∧ x = nI q ∧ b ≤ q) (hb : b < 2147483648) : ∀ a, a < b → ¬ x = nI a := fun a ha e => by
  rcases h with h | ⟨q, hq, rfl, h3⟩
  · rw [e] at h
    exact nI_pos (show a < 2 ^ 31 by omega) h
  · have := nI_inj hq (by omega) e
    omega
/-- any value is small, or none of the small ones -/
theorem jsml (x : Int32) (b : Nat) : (x < 0 ∨ ∃ q, q < 2147483648 ∧ x = nI q ∧ b ≤ q) ∨ ∃ q, q < b ∧ q < 2147483648 ∧ x = nI q := by
  rcases jnat x with hx | ⟨q, hq, rfl⟩
  · exact Or.inl (Or.inl hx)
  · by_cases h : b ≤ q
    · exact Or.inl (Or.inr ⟨q, hq, rfl, h⟩)
    · exact Or.inr ⟨q, by omega, hq, rfl⟩
theorem v_stepOf_t {w : Wd} {x y : Int32} (h : x < 0 ∨ ∃ q, q < 2147483648 ∧ x = nI q ∧ 4 ≤ q) : f_X2_stepOf 0 x y w = some (Int32.ofInt (-1), w) := by
  rw [e_X2_stepOf]
  rcases h with h | ⟨q, hq, rfl, h4⟩
  · rw [if_pos h]
  · simp (disch := omega) only [jlt0, ↓reduceIte, jl, jle]
    rw [if_pos (by omega)]
theorem v_stepOf_s {w : Wd} (hR : RP w 0 L P) (hW : WP L P) {t : Nat} (ht : t < 4) {y : Int32} (h : y < 0 ∨ ∃ q, q < 2147483648 ∧ y = nI q ∧ L t ≤ q) : f_X2_stepOf 0 (nI t) y w = some (Int32.ofInt (-1), w) := by
  rcases h with h | ⟨q, hq, rfl, h4⟩
  · rw [e_X2_stepOf]
    simp (disch := omega) only [jlt0, ↓reduceIte, jl, jle]
    rw [if_neg (by omega), if_pos h]
  · exact v_stepOf_no hR hW ht h4 hq
theorem u_isThread_b {x : Int32} (h : x < 0 ∨ ∃ q, q < 2147483648 ∧ x = nI q ∧ 4 ≤ q) (w : Wd) : f_X8_isThread x w = some (nI 0, w) := by
  rcases h with h | ⟨q, hq, rfl, h4⟩
  · exact u_isThread_neg h w
  · rw [u_isThread hq, if_neg (by omega)]
theorem v_isThread_b {x : Int32} (h : x < 0 ∨ ∃ q, q < 2147483648 ∧ x = nI q ∧ 4 ≤ q) (w : Wd) : f_X7_isThread x w = some (nI 0, w) := by
  rcases h with h | ⟨q, hq, rfl, h4⟩
  · exact v_isThread_neg h w
  · rw [v_isThread hq, if_neg (by omega)]
/-- in a range that may be empty -/
theorem u_in_len {n : Nat} (hn : n < 2147483648) {x : Int32} (w : Wd) : ((x < 0 ∨ ∃ q, q < 2147483648 ∧ x = nI q ∧ n ≤ q) → f_X8_in x (nI 0) (nI n - nI 1) w = some (nI 0, w)) ∧ ∀ q, x = nI q → q < n → f_X8_in x (nI 0) (nI n - nI 1) w = some (nI 1, w) := by
  refine ⟨fun h => ?_, fun q hx hq => ?_⟩
  · rw [u_in, if_neg]
    intro hin
    rcases h with h | ⟨q, hq, rfl, h4⟩
    · exact absurd hin.1 (Int32.not_le.mpr h)
    · by_cases h0 : n = 0
      · rw [h0, show nI 0 - nI 1 = Int32.ofInt (-1) from rfl] at hin
        have := Int32.le_trans hin.1 hin.2
        exact absurd this (by decide)
      · have h5 := hin.2
        rw [jsub (by omega), jle hq (by omega)] at h5
        omega
  · rw [hx, jsub (by omega), u_in_n (by omega) (by omega), if_pos (by omega)]
theorem a2_ofStep (x y z : Int32) : A2 (f_X7_ofStep 0 x y z) (f_X8_ofStep 0 x y z) := fun g w wm hG hC hM => by
  obtain ⟨hW, hE, hN, hV⟩ := hG.2.1
  have hRP := hC.1.2.1.1
  have hRQ := MI_RQ hM
  suffices h : ∃ v, f_X7_ofStep 0 x y z w = some (v, w) ∧ f_X8_ofStep 0 x y z wm = some (v, wm) by
    obtain ⟨v, h1, h2⟩ := h
    exact ⟨v, w, g, wm, h1, Fr.rf, hG, hC, h2, Fr.rf, hM⟩
  rcases jsml x 4 with hx | ⟨t, ht, ht31, rfl⟩
  · refine ⟨Int32.ofInt (-1), ?_, ?_⟩
    · rw [e_X7_ofStep, v_stepOf_t hx, joc, if_pos rfl]
    · rw [e_X8_ofStep, u_isThread_b hx, joc, if_pos (by rfl)]
  · have hL := (hW t ht).1
    have hLt := hRQ.1 t ht
    rw [Nat.zero_add] at hLt
    have hin := u_in_len (n := g.2.1.1 t) (by omega) (x := y) wm
    have m0 : f_X8_ofStep 0 (nI t) y z wm = (oC (f_X8_in y (nI 0) (nI (g.2.1.1 t) - nI 1) wm) fun q2 => (if q2.1 = 0 then (some ((Int32.ofInt (-1)), q2.2)) else (oC (f_X8_step 0 (nI t) y q2.2) fun q3 => (if z = 0 then (if (Int32.ofInt 4) = 0 then none else (some ((q3.1 / (Int32.ofInt 4)), q3.2))) else (if z = (Int32.ofInt 1) then (if (Int32.ofInt 4) = 0 then none else (some ((q3.1 - q3.1 / (Int32.ofInt 4) * (Int32.ofInt 4)), q3.2))) else (if z = (Int32.ofInt 2) then (oC (f_X8_notWith 0 (nI t) y q3.2) fun q4 => (some (q4.1, q4.2))) else (some ((Int32.ofInt (-2)), q3.2)))))))) := by
      rw [e_X8_ofStep, u_isThread ht31, joc, if_pos ht, if_neg (show ¬ nI 1 = (0 : Int32) by decide)]
      simp (disch := omega) only [jchk, jcl, hLt]
      rfl
    rcases jsml y (g.2.1.1 t) with hy | ⟨s, hs, hs31, rfl⟩
    · refine ⟨Int32.ofInt (-1), ?_, ?_⟩
      · rw [e_X7_ofStep, v_stepOf_s hRP hW ht hy, joc, if_pos rfl]
      · rw [m0, hin.1 hy, joc, if_pos (by rfl)]
    · have hP := P_lt hW ht hs
      have c1 : f_X7_ofStep 0 (nI t) (nI s) z w = (if z = (Int32.ofInt 0) then (oC (f_X7_kindOf (nI (g.2.1.2.1 t s)) w) fun q4 => (some (q4.1, q4.2))) else (if z = (Int32.ofInt 1) then (oC (f_X7_nameOf (nI (g.2.1.2.1 t s)) w) fun q3 => (some (q3.1, q3.2))) else (if z = (Int32.ofInt 2) then (oC (f_X2_conflictsOf 0 (nI t) (nI s) w) fun q2 => (some (q2.1, q2.2))) else (some ((Int32.ofInt (-2)), w))))) := by
        rw [e_X7_ofStep, v_stepOf hRP hW ht hs, joc, if_neg (show ¬ nI (g.2.1.2.1 t s) = Int32.ofInt (-1) by rw [jm1 (by omega)]; exact id)]
      have m1 : f_X8_ofStep 0 (nI t) (nI s) z wm = (if z = 0 then (some (nI (g.2.1.2.1 t s / 4), wm)) else (if z = (nI 1) then (some (nI (g.2.1.2.1 t s % 4), wm)) else (if z = (nI 2) then (oC (f_X8_notWith 0 (nI t) (nI s) wm) fun q4 => (some (q4.1, q4.2))) else (some ((Int32.ofInt (-2)), wm))))) := by
        rw [m0, hin.2 s rfl hs, joc, if_neg (show ¬ nI 1 = (0 : Int32) by decide), u_step hRQ hW ht hs, joc]
        simp (disch := omega) only [jl, jeq0, Nat.reduceEqDiff, ↓reduceIte, jdiv, jmul, jsub, jmod]
      rw [c1, m1, v_kindOf (by omega), v_nameOf, v_conf hW hRP ht hs, u_conf hW hRQ ht hs]
      simp only [jl, joc]
      by_cases h0 : z = 0
      · exact ⟨_, if_pos h0, if_pos h0⟩
      · rw [if_neg (show ¬ z = nI 0 from h0), if_neg h0]
        by_cases h1 : z = nI 1
        · rw [if_pos h1, if_pos h1]
          exact ⟨_, rfl, rfl⟩
        · rw [if_neg h1, if_neg h1]
          by_cases h2 : z = nI 2
          · rw [if_pos h2, if_pos h2]
            exact ⟨_, rfl, rfl⟩
          · rw [if_neg h2, if_neg h2]
            exact ⟨_, rfl, rfl⟩
theorem a2_count (x : Int32) : A2 (f_X7_count 0 x) (f_X8_count 0 x) := fun g w wm hG hC hM => by
  obtain ⟨hW, hE, hN, hV⟩ := hG.2.1
  have hRP := hC.1.2.1.1
  have hRQ := MI_RQ hM
  suffices h : ∃ v, f_X7_count 0 x w = some (v, w) ∧ f_X8_count 0 x wm = some (v, wm) by
    obtain ⟨v, h1, h2⟩ := h
    exact ⟨v, w, g, wm, h1, Fr.rf, hG, hC, h2, Fr.rf, hM⟩
  rcases jsml x 9 with hx | ⟨q, hq, hq31, rfl⟩
  · have hne := jneN hx (by decide)
    have hx4 : x < 0 ∨ ∃ q, q < 2147483648 ∧ x = nI q ∧ 4 ≤ q := by
      rcases hx with h | ⟨q, a, b, c⟩
      · exact Or.inl h
      · exact Or.inr ⟨q, a, b, by omega⟩
    refine ⟨Int32.ofInt (-2), ?_, ?_⟩
    · rw [e_X7_count, v_isThread_b hx4, joc, if_pos (by rfl)]
      simp only [jl]
      rw [if_neg (hne 4 (by decide)), if_neg (hne 5 (by decide)), if_neg (hne 6 (by decide)), if_neg (hne 7 (by decide)), if_neg (hne 8 (by decide))]
    · rw [e_X8_count]
      simp only [jl]
      rw [if_neg (hne 0 (by decide)), if_neg (hne 1 (by decide)), if_neg (hne 2 (by decide)), if_neg (hne 3 (by decide)), if_neg (hne 4 (by decide)), if_neg (hne 5 (by decide)), if_neg (hne 6 (by decide)), if_neg (hne 7 (by decide)), if_neg (hne 8 (by decide))]
  · by_cases h4 : q < 4
    · have hLq := hRQ.1 q h4
      rw [Nat.zero_add] at hLq
      refine ⟨nI (g.2.1.1 q), ?_, ?_⟩
      · rw [e_X7_count, v_isThread hq31, joc, if_pos h4, if_neg (show ¬ nI 1 = (0 : Int32) by decide), v_lengthOf hRP h4, joc]
      · rw [e_X8_count]
        simp (disch := omega) only [jl, jeq, jchk, jcl, hLq]
        rcases four h4 with rfl | rfl | rfl | rfl <;> rfl
    · have c0 : f_X7_isThread (nI q) w = some (nI 0, w) := by rw [v_isThread hq31, if_neg h4]
      have e7 := (MI_KQ hM).1
      rcases (show q = 4 ∨ q = 5 ∨ q = 6 ∨ q = 7 ∨ q = 8 by omega) with rfl | rfl | rfl | rfl | rfl
      · refine ⟨nI (g.2.1.1 0 + g.2.1.1 1 + g.2.1.1 2 + g.2.1.1 3), ?_, ?_⟩
        · rw [e_X7_count, c0, joc]
          simp (disch := omega) only [jl, jeq, jeq0, ↓reduceIte, v_allSteps hRP, joc]
        · rw [e_X8_count]
          simp (disch := omega) only [jl, jeq, Nat.reduceEqDiff, ↓reduceIte, u_stepsAll hRQ, joc]
      · refine ⟨nI g.1.1, ?_, ?_⟩
        · rw [e_X7_count, c0, joc]
          simp (disch := omega) only [jl, jeq, jeq0, Nat.reduceEqDiff, ↓reduceIte, e_X1_length, joc, hC.1.1.1]
        · rw [e_X8_count]
          simp (disch := omega) only [jl, jeq, Nat.reduceEqDiff, ↓reduceIte, hM.1.1]
      · refine ⟨nI g.2.2.1.2.1, ?_, ?_⟩
        · rw [e_X7_count, c0, joc]
          simp (disch := omega) only [jl, jeq, jeq0, Nat.reduceEqDiff, ↓reduceIte, e_X0_size, joc, hC.1.2.2.1.2.1]
        · rw [e_X8_count]
          simp (disch := omega) only [jl, jeq, Nat.reduceEqDiff, ↓reduceIte, hM.2.2.1.1]
      · refine ⟨nI g.2.1.2.2.1, ?_, ?_⟩
        · rw [e_X7_count, c0, joc]
          simp (disch := omega) only [jl, jeq, jeq0, Nat.reduceEqDiff, ↓reduceIte, e_X3_length, joc, hC.1.2.1.2.1]
        · rw [e_X8_count]
          simp (disch := omega) only [jl, jeq, Nat.reduceEqDiff, ↓reduceIte, jchk, jcl, e7]
      · refine ⟨nI (prO g.2.1.1 g.2.1.2.1 4 / 2), ?_, ?_⟩
        · rw [e_X7_count, c0, joc]
          simp (disch := omega) only [jl, jeq, jeq0, Nat.reduceEqDiff, ↓reduceIte, v_pairs hW hRP, joc]
        · rw [e_X8_count]
          simp (disch := omega) only [jl, jeq, Nat.reduceEqDiff, ↓reduceIte, u_pairs hW hRQ]
end OS
