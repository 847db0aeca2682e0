/-! FAULTS of a text; wipe. -/
section FT
theorem q_wipe {p : Nat} {S : Nat → Nat} (hS : SK p S) {w wm : Wd} (hX : PX w p S) (hM : PM wm p S) : f_X7_wipe 0 w = some (nI p, wI w 1 0 1 (nI 0)) ∧ f_X8_wipe 0 wm = some (nI p, wI wm 8 0 7 (nI 0)) := by
  refine ⟨?_, ?_⟩
  · rw [e_X7_wipe, e_X1_length, joc, e_X1_clear, joc, hX.1]
    simp only [jl]
  · rw [e_X8_wipe, hM.1]
    simp only [jl]
def kd (s : Nat) : Nat := if s = 114 then 0 else if s = 119 then 1 else if s = 108 then 2 else if s = 117 then 3 else 4
def dg (s : Nat) : Bool := decide (48 ≤ s) && decide (s ≤ 51)
variable {p : Nat} {S : Nat → Nat} {w wm : Wd}
theorem v_signAt (hS : SK p S) (hX : PX w p S) {i : Nat} (hi : i < p) : f_X1_signAt 0 (nI i) w = some (nI (S i), w) := by
  have := hS.1
  rw [e_X1_signAt, hX.1]
  simp (disch := omega) only [jlt0, ↓reduceIte, jle, jchk, jcl, hX.2 i hi]
  rw [if_neg (by omega)]
theorem v_kindAt (hS : SK p S) (hX : PX w p S) {i : Nat} (hi : i < p) : f_X1_kindAt 0 (nI i) w = some (if kd (S i) < 4 then nI (kd (S i)) else Int32.ofInt (-1), w) := by
  have hs := hS.2 i hi
  rw [e_X1_kindAt, v_signAt hS hX hi]
  simp (disch := omega) only [joc, jl, jeq]
  unfold kd
  by_cases h1 : S i = 108
  · simp [h1]
  · by_cases h2 : S i = 114
    · simp [h2]
    · by_cases h3 : S i = 117
      · simp [h3]
      · by_cases h4 : S i = 119
        · simp [h4]
        · simp [h1, h2, h3, h4]
theorem v_isDigit (hS : SK p S) (hX : PX w p S) {i : Nat} (hi : i < p) : f_X1_isDigitAt 0 (nI i) w = some (nI (if dg (S i) = true then 1 else 0), w) := by
  have hs := hS.2 i hi
  rw [e_X1_isDigitAt]
  simp (disch := omega) only [v_signAt hS hX hi, joc, jl, jlt, jzb0, jzb1]
  unfold dg
  by_cases h1 : S i < 48
  · rw [if_pos h1]
    simp [show ¬ 48 ≤ S i by omega]
  · rw [if_neg h1]
    by_cases h2 : 51 < S i
    · rw [if_pos h2]
      simp [show ¬ S i ≤ 51 by omega]
    · rw [if_neg h2]
      simp [show 48 ≤ S i by omega, show S i ≤ 51 by omega]
theorem v_digitAt (hS : SK p S) (hX : PX w p S) {i : Nat} (hi : i < p) (hd : dg (S i) = true) : f_X1_digitAt 0 (nI i) w = some (nI (S i - 48), w) := by
  unfold dg at hd
  rw [Bool.and_eq_true] at hd
  have := of_decide_eq_true hd.1
  rw [e_X1_digitAt, v_signAt hS hX hi, joc]
  simp (disch := omega) only [jl, jsub]
theorem u_kindOf {s : Nat} (hs : s < 2147483648) (wm : Wd) : f_X8_kindOf (nI s) wm = some (if kd s < 4 then nI (kd s) else Int32.ofInt (-6), wm) := by
  rw [e_X8_kindOf]
  simp (disch := omega) only [jl, jeq]
  unfold kd
  by_cases h1 : s = 108
  · simp [h1]
  · by_cases h2 : s = 114
    · simp [h2]
    · by_cases h3 : s = 117
      · simp [h3]
      · by_cases h4 : s = 119
        · simp [h4]
        · simp [h1, h2, h3, h4]
theorem faultR (hS : SK p S) (hX : PX w p S) (hM : PM wm p S) {h : Int32} (hh : ¬ h = 0) : ∀ (m i : Nat), m + i = p → i ≤ 24 → ∃ v, x_X1_faultAsRun 2 [] [some (zr 1 0), some (zi (nI i))] w = some (v, w) ∧ x_X8_faultOf 2 [] [some (zr 8 0), some (zi h), some (zi (nI i)), none, none] wm = some (v, wm) ∧ ((v = Int32.ofInt (-6) ∧ p ≤ 24 ∧ ∀ j, i ≤ j → j < p → dg (S j) = true) ∨ ∃ a, a < 100 ∧ v = nI a) := by
  have hp := hS.1
  intro m
  induction m with
  | zero =>
    intro i hm hi
    have : i = p := by omega
    subst this
    refine ⟨Int32.ofInt (-6), ?_, ?_, Or.inl ⟨rfl, hi, fun j h1 h2 => by omega⟩⟩
    · rw [e_X1_faultAsRun_2, hX.1]
      simp (disch := omega) only [jle, Nat.le_refl, ↓reduceIte]
    · rw [e_X8_faultOf_2, hM.1]
      simp (disch := omega) only [jle, Nat.le_refl, ↓reduceIte, hh]
  | succ m ih =>
    intro i hm hi
    have hip : i < p := by omega
    have hs := hS.2 i hip
    have hc : x_X1_faultAsRun 2 [] [some (zr 1 0), some (zi (nI i))] w = if dg (S i) = true then (if i < 24 then x_X1_faultAsRun 2 [] [some (zr 1 0), some (zi (nI (i + 1)))] w else some (nI i, w)) else some (nI i, w) := by
      rw [e_X1_faultAsRun_2, hX.1]
      simp (disch := omega) only [jle, v_isDigit hS hX hip, joc, j01, jl, jlt, nI_add]
      rw [if_neg (by omega)]
      cases dg (S i) <;> rfl
    have hm' : x_X8_faultOf 2 [] [some (zr 8 0), some (zi h), some (zi (nI i)), none, none] wm = if dg (S i) = true then (if i = 24 then some (nI i, wm) else x_X8_faultOf 2 [] [some (zr 8 0), some (zi h), some (zi (nI (i + 1))), none, none] wm) else some (nI i, wm) := by
      have e : nI (if 48 ≤ S i ∧ S i ≤ 51 then 1 else 0) = nI (if dg (S i) = true then 1 else 0) := by
        unfold dg
        simp
      rw [e_X8_faultOf_2, hM.1]
      simp (disch := omega) only [jle, hh, ↓reduceIte, e_X8_faultOf_25, jl, jeq0, jchk, jcl, hM.2 i hip, u_in, joc, e, e_X8_faultOf_65, j01, jeq, nI_add]
      rw [if_neg (by omega)]
      cases dg (S i) <;> rfl
    rw [hc, hm']
    cases hd : dg (S i) with
    | false =>
      rw [if_neg (by decide), if_neg (by decide)]
      exact ⟨nI i, rfl, rfl, Or.inr ⟨i, by omega, rfl⟩⟩
    | true =>
      rw [if_pos rfl, if_pos rfl]
      by_cases h24 : i = 24
      · rw [if_neg (by omega), if_pos h24]
        exact ⟨nI i, rfl, rfl, Or.inr ⟨i, by omega, rfl⟩⟩
      · rw [if_pos (by omega), if_neg h24]
        obtain ⟨v, h1, h2, h3⟩ := ih (i + 1) (by omega) (by omega)
        refine ⟨v, h1, h2, ?_⟩
        rcases h3 with ⟨g1, g2, g3⟩ | h3
        · exact Or.inl ⟨g1, g2, fun j h1 h2 => by
            by_cases e : j = i
            · rw [e]; exact hd
            · exact g3 j (by omega) h2⟩
        · exact Or.inr h3
theorem faultP (hS : SK p S) (hX : PX w p S) (hM : PM wm p S) : ∀ (m i : Nat), m + i = p → i ≤ 12 → ∃ v, x_X1_faultAsProgram 2 [] [some (zr 1 0), some (zi (nI i)), none] w = some (v, w) ∧ x_X8_faultOf 2 [] [some (zr 8 0), some (zi (nI 0)), some (zi (nI i)), none, none] wm = some (v, wm) ∧ ((v = Int32.ofInt (-6) ∧ p ≤ 12 ∧ p % 2 = 0 ∧ ∀ j, i ≤ j → j < p → if j % 2 = 0 then kd (S j) < 4 else dg (S j) = true) ∨ ∃ a, a < 100 ∧ v = nI a) := by
  have hp := hS.1
  intro m
  induction m with
  | zero =>
    intro i hm hi
    have : i = p := by omega
    subst this
    have h2 : i % 2 < 2 := Nat.mod_lt _ (by decide)
    by_cases he : i % 2 = 0
    · refine ⟨Int32.ofInt (-6), ?_, ?_, Or.inl ⟨rfl, hi, he, fun j h1 h2 => by omega⟩⟩
      · rw [e_X1_faultAsProgram_2, hX.1]
        simp (disch := omega) only [jle, Nat.le_refl, ↓reduceIte, jl, jdiv, jmul, jsub, jmod, jeq0, he, Nat.reduceEqDiff]
      · rw [e_X8_faultOf_2, hM.1]
        simp (disch := omega) only [jle, Nat.le_refl, ↓reduceIte, jl, jdiv, jmul, jsub, jmod, jeq0, jeq, he, Nat.reduceEqDiff]
    · have he1 : i % 2 = 1 := by omega
      refine ⟨nI i, ?_, ?_, Or.inr ⟨i, by omega, rfl⟩⟩
      · rw [e_X1_faultAsProgram_2, hX.1]
        simp (disch := omega) only [jle, Nat.le_refl, ↓reduceIte, jl, jdiv, jmul, jsub, jmod, jeq0, he1, Nat.reduceEqDiff]
      · rw [e_X8_faultOf_2, hM.1]
        simp (disch := omega) only [jle, Nat.le_refl, ↓reduceIte, jl, jdiv, jmul, jsub, jmod, jeq0, jeq, he1, Nat.reduceEqDiff]
  | succ m ih =>
    intro i hm hi
    have hip : i < p := by omega
    have hs := hS.2 i hip
    have h2 : i % 2 < 2 := Nat.mod_lt _ (by decide)
    let ok : Bool := if i % 2 = 0 then decide (kd (S i) < 4) else dg (S i)
    have hc : x_X1_faultAsProgram 2 [] [some (zr 1 0), some (zi (nI i)), none] w = if ok = true then (if i < 12 then x_X1_faultAsProgram 2 [] [some (zr 1 0), some (zi (nI (i + 1))), none] w else some (nI i, w)) else some (nI i, w) := by
      rw [e_X1_faultAsProgram_2, hX.1]
      simp (disch := omega) only [jle, jl, jdiv, jmul, jsub, jmod, jeq0, Nat.reduceEqDiff, ↓reduceIte, v_isDigit hS hX hip, v_kindAt hS hX hip, joc, j01, jlt, nI_add]
      rw [if_neg (by omega)]
      show _ = if (if i % 2 = 0 then decide (kd (S i) < 4) else dg (S i)) = true then _ else _
      by_cases he : i % 2 = 0
      · rw [if_pos he, if_pos he]
        by_cases hk : kd (S i) < 4
        · rw [if_pos hk, if_neg (show ¬ nI (kd (S i)) = Int32.ofInt (-1) by rw [jm1 (by omega)]; exact id), if_pos (show decide (kd (S i) < 4) = true from decide_eq_true hk)]
        · rw [if_neg hk, if_pos rfl, if_neg (show ¬ decide (kd (S i) < 4) = true by simp [hk])]
      · rw [if_neg he, if_neg he]
        cases dg (S i) <;> rfl
    have hm' : x_X8_faultOf 2 [] [some (zr 8 0), some (zi (nI 0)), some (zi (nI i)), none, none] wm = if ok = true then (if i = 12 then some (nI i, wm) else x_X8_faultOf 2 [] [some (zr 8 0), some (zi (nI 0)), some (zi (nI (i + 1))), none, none] wm) else some (nI i, wm) := by
      have e : nI (if 48 ≤ S i ∧ S i ≤ 51 then 1 else 0) = nI (if dg (S i) = true then 1 else 0) := by
        unfold dg
        simp
      rw [e_X8_faultOf_2, hM.1]
      simp (disch := omega) only [jle, jl, jdiv, jmul, jsub, jmod, jeq0, Nat.reduceEqDiff, ↓reduceIte, e_X8_faultOf_25, jchk, jcl, hM.2 i hip, u_in, u_kindOf, joc, e, e_X8_faultOf_65, j01, jeq, nI_add]
      rw [if_neg (by omega)]
      show _ = if (if i % 2 = 0 then decide (kd (S i) < 4) else dg (S i)) = true then _ else _
      by_cases he : i % 2 = 0
      · rw [if_pos he, if_pos he]
        by_cases hk : kd (S i) < 4
        · rw [if_pos hk, if_neg (show ¬ nI (kd (S i)) = Int32.ofInt (-6) by rw [jm6 (by omega)]; exact id), if_pos (show decide (kd (S i) < 4) = true from decide_eq_true hk)]
        · rw [if_neg hk, if_pos rfl, if_neg (show ¬ decide (kd (S i) < 4) = true by simp [hk])]
      · rw [if_neg he, if_neg he]
        cases dg (S i) <;> rfl
    rw [hc, hm']
    cases hd : ok with
    | false =>
      rw [if_neg (by decide), if_neg (by decide)]
      exact ⟨nI i, rfl, rfl, Or.inr ⟨i, by omega, rfl⟩⟩
    | true =>
      rw [if_pos rfl, if_pos rfl]
      by_cases h12 : i = 12
      · rw [if_neg (by omega), if_pos h12]
        exact ⟨nI i, rfl, rfl, Or.inr ⟨i, by omega, rfl⟩⟩
      · rw [if_pos (by omega), if_neg h12]
        obtain ⟨v, h1, h2, h3⟩ := ih (i + 1) (by omega) (by omega)
        refine ⟨v, h1, h2, ?_⟩
        rcases h3 with ⟨g1, g2, g3, g4⟩ | h3
        · exact Or.inl ⟨g1, g2, g3, fun j h1 h2 => by
            by_cases e : j = i
            · rw [e]
              have hd : (if i % 2 = 0 then decide (kd (S i) < 4) else dg (S i)) = true := hd
              by_cases he : i % 2 = 0
              · rw [if_pos he] at hd ⊢
                exact of_decide_eq_true hd
              · rw [if_neg he] at hd ⊢
                exact hd
            · exact g4 j (by omega) h2⟩
        · exact Or.inr h3
def okR (p : Nat) (S : Nat → Nat) : Prop := p ≤ 24 ∧ ∀ j, j < p → dg (S j) = true
def okP (p : Nat) (S : Nat → Nat) : Prop := p ≤ 12 ∧ p % 2 = 0 ∧ ∀ j, j < p → if j % 2 = 0 then kd (S j) < 4 else dg (S j) = true
theorem q_faultR (hS : SK p S) (hX : PX w p S) (hM : PM wm p S) : ∃ v, f_X1_faultAsRun 0 w = some (v, w) ∧ f_X8_faultOf 0 (nI 1) wm = some (v, wm) ∧ ((v = Int32.ofInt (-6) ∧ okR p S) ∨ ∃ a, a < 100 ∧ v = nI a) := by
  obtain ⟨v, h1, h2, h3⟩ := faultR hS hX hM (h := nI 1) (by decide) p 0 rfl (by omega)
  refine ⟨v, by rw [e_X1_faultAsRun]; exact h1, by rw [e_X8_faultOf]; exact h2, ?_⟩
  rcases h3 with ⟨g1, g2, g3⟩ | h3
  · exact Or.inl ⟨g1, g2, fun j hj => g3 j (Nat.zero_le _) hj⟩
  · exact Or.inr h3
theorem q_faultP (hS : SK p S) (hX : PX w p S) (hM : PM wm p S) : ∃ v, f_X1_faultAsProgram 0 w = some (v, w) ∧ f_X8_faultOf 0 (nI 0) wm = some (v, wm) ∧ ((v = Int32.ofInt (-6) ∧ okP p S) ∨ ∃ a, a < 100 ∧ v = nI a) := by
  obtain ⟨v, h1, h2, h3⟩ := faultP hS hX hM p 0 rfl (by omega)
  refine ⟨v, by rw [e_X1_faultAsProgram]; exact h1, by rw [e_X8_faultOf]; exact h2, ?_⟩
  rcases h3 with ⟨g1, g2, g3, g4⟩ | h3
  · exact Or.inl ⟨g1, g2, g3, fun j hj => g4 j (Nat.zero_le _) hj⟩
  · exact Or.inr h3
theorem q_fault (hS : SK p S) (hX : PX w p S) (hM : PM wm p S) (x : Int32) : ∃ v, f_X7_fault 0 x w = some (v, w) ∧ f_X8_fault 0 x wm = some (v, wm) := by
  have bad : (x < 0 ∨ ∃ q, q < 2147483648 ∧ x = nI q ∧ 2 ≤ q) → ∃ v, f_X7_fault 0 x w = some (v, w) ∧ f_X8_fault 0 x wm = some (v, wm) := fun h => by
    have hne : ∀ a, a < 2 → ¬ x = nI a := fun a ha e => by
      rcases h with h | ⟨q, hq, rfl, h3⟩
      · rw [e] at h
        exact nI_pos (show a < 2 ^ 31 by omega) h
      · have := nI_inj hq (by omega) e
        omega
    refine ⟨Int32.ofInt (-2), ?_, ?_⟩
    · rw [e_X7_fault, if_neg (show ¬ x = (0 : Int32) from hne 0 (by decide))]
      simp only [jl]
      rw [if_neg (hne 1 (by decide))]
    · rw [e_X8_fault]
      simp only [jl]
      rcases h with h | ⟨q, hq, rfl, h3⟩
      · rw [u_in_neg h, joc, if_pos (by rfl)]
      · rw [u_in_n hq (by decide), joc, if_neg (show ¬ q ≤ 1 by omega), if_pos (by rfl)]
  rcases jnat x with hx | ⟨q, hq, rfl⟩
  · exact bad (Or.inl hx)
  · by_cases h2 : 2 ≤ q
    · exact bad (Or.inr ⟨q, hq, rfl, h2⟩)
    · have hin : f_X8_in (nI q) (nI 0) (nI 1) wm = some (nI 1, wm) := by rw [u_in_n hq (by decide), if_pos (show q ≤ 1 by omega)]
      rcases (show q = 0 ∨ q = 1 by omega) with rfl | rfl
      · obtain ⟨v, h1, h2, -⟩ := q_faultP hS hX hM
        refine ⟨v, ?_, ?_⟩
        · rw [e_X7_fault, if_pos (by rfl), h1, joc]
        · rw [e_X8_fault]
          simp only [jl]
          rw [hin, joc, if_neg (show ¬ nI 1 = (0 : Int32) by decide), h2, joc]
      · obtain ⟨v, h1, h2, -⟩ := q_faultR hS hX hM
        refine ⟨v, ?_, ?_⟩
        · rw [e_X7_fault, if_neg (by decide)]
          simp only [jl, ↓reduceIte]
          rw [h1, joc]
        · rw [e_X8_fault]
          simp only [jl]
          rw [hin, joc, if_neg (show ¬ nI 1 = (0 : Int32) by decide), h2, joc]
end FT
