/-! PROGRAMS: steps, held locks, whether they are well, in both. -/
def wk (P : Nat → Nat → Nat) (t k : Nat) : Bool := if P t k / 4 = 2 then !(hx P t k).testBit (P t k % 4) else if P t k / 4 = 3 then (hx P t k).testBit (P t k % 4) else true
def wl (P : Nat → Nat → Nat) (t : Nat) : Nat → Bool
  | 0 => true
  | k + 1 => wl P t k && wk P t k
theorem wl_le {P : Nat → Nat → Nat} {t a b : Nat} (h : wl P t b = true) (hab : a ≤ b) : wl P t a = true := by
  induction hab with
  | refl => exact h
  | step _ ih =>
    apply ih
    have := (Bool.and_eq_true _ _).mp h
    exact this.1
theorem wl_wk {P : Nat → Nat → Nat} {t a b : Nat} (h : wl P t b = true) (hab : a < b) : wk P t a = true := ((Bool.and_eq_true _ _).mp (wl_le h (show a + 1 ≤ b from hab))).2
theorem wl_no {P : Nat → Nat → Nat} {t a b : Nat} (h : wk P t a = false) (hab : a < b) : wl P t b = false := by
  cases hb : wl P t b with
  | false => rfl
  | true =>
    have := wl_wk hb hab
    rw [h] at this
    cases this
/-- programs that are well -/
def WE (L : Nat → Nat) (P : Nat → Nat → Nat) : Prop := ∀ t, t < 4 → wl P t (L t) = true
theorem v_stepOf {w : Wd} {k : Nat} {L : Nat → Nat} {P : Nat → Nat → Nat} (hR : RP w k L P) (hW : WP L P) {t s : Nat} (ht : t < 4) (hs : s < L t) : f_X2_stepOf k (nI t) (nI s) w = some (nI (P t s), w) := by
  have hL := (hW t ht).1
  rw [e_X2_stepOf]
  simp (disch := omega) only [jl, jlt0, jle, jlt, nI_add, jmul, jchk, jcl, hR.1 t ht, ↓reduceIte, hR.2 t s ht hs]
  rw [if_neg (by omega), if_pos hs]
theorem v_stepOf_no {w : Wd} {k : Nat} {L : Nat → Nat} {P : Nat → Nat → Nat} (hR : RP w k L P) (hW : WP L P) {t s : Nat} (ht : t < 4) (hs : L t ≤ s) (h31 : s < 2147483648) : f_X2_stepOf k (nI t) (nI s) w = some (Int32.ofInt (-1), w) := by
  have hL := (hW t ht).1
  rw [e_X2_stepOf]
  simp (disch := omega) only [jl, jlt0, jle, jlt, jchk, jcl, hR.1 t ht, ↓reduceIte]
  rw [if_neg (by omega), if_neg (by omega)]
theorem v_lengthOf {w : Wd} {k : Nat} {L : Nat → Nat} {P : Nat → Nat → Nat} (hR : RP w k L P) {t : Nat} (ht : t < 4) : f_X2_lengthOf k (nI t) w = some (nI (L t), w) := by
  rw [e_X2_lengthOf, v_isThread (by omega), joc]
  simp (disch := omega) only [jl, if_pos ht, jeq0, Nat.reduceEqDiff, ↓reduceIte, jchk, jcl, hR.1 t ht]
theorem or_clear : ∀ h : Nat, h < 16 → ∀ m : Nat, m < 4 → h.testBit m = false → h ||| 2 ^ m = h ^^^ 2 ^ m := by decide +kernel
theorem and_not : ∀ h : Nat, h < 16 → ∀ m : Nat, m < 4 → h.testBit m = true → nI h &&& (nI (2 ^ m) ^^^ Int32.ofInt (-1)) = nI (h ^^^ 2 ^ m) := by decide +kernel
theorem v_heldAfter_lp {w : Wd} {k : Nat} {L : Nat → Nat} {P : Nat → Nat → Nat} (hR : RP w k L P) (hW : WP L P) {t d : Nat} (ht : t < 4) (hd : d < 2147483647) (hw : wl P t (min d (L t)) = true) : ∀ (n j : Nat), n + j = d →
    x_X2_heldAfter 5 [] [some (zr 2 k), some (zi (nI t)), some (zi (nI d)), some (zi (nI (hx P t (min j (L t))))), some (zi (nI j)), none] w = some (nI (hx P t (min d (L t))), w) := by
  intro n
  induction n with
  | zero =>
    intro j hj
    rw [e_X2_heldAfter_5]
    simp (disch := omega) only [jle]
    rw [if_pos (by omega), show j = d by omega]
  | succ n ih =>
    intro j hj
    rw [← ih (j + 1) (by omega), e_X2_heldAfter_5]
    simp (disch := omega) only [jle]
    rw [if_neg (by omega)]
    by_cases hjL : j < L t
    · have hP := (hW t ht).2 j hjL
      have hwk := wl_wk hw (show j < min d (L t) by omega)
      have h16 := hx_lt P t j
      have hm : P t j % 4 < 4 := Nat.mod_lt _ (by decide)
      rw [show min j (L t) = j by omega, show min (j + 1) (L t) = j + 1 by omega, show hx P t (j + 1) = hx P t j ^^^ hbit (P t j) from rfl, v_stepOf hR hW ht hjL]
      simp (disch := omega) only [joc, v_kindOf, jl, jeq, v_nameOf, v_setOf, jor, e_X2_heldAfter_40, nI_add]
      unfold wk at hwk
      unfold hbit
      by_cases h2 : P t j / 4 = 2
      · rw [if_pos h2] at hwk
        rw [if_pos h2, if_neg (by omega), if_neg (by omega), or_clear _ h16 _ hm (by simpa using hwk)]
      · rw [if_neg h2] at hwk
        rw [if_neg h2]
        by_cases h3 : P t j / 4 = 3
        · rw [if_pos h3] at hwk
          rw [if_pos h3, if_neg (by omega), and_not _ h16 _ hm hwk]
        · rw [if_neg h3, if_pos (by omega), Nat.xor_zero]
    · rw [v_stepOf_no hR hW ht (by omega) (by omega), show min j (L t) = L t by omega, show min (j + 1) (L t) = L t by omega]
      simp (disch := omega) only [joc, v_kindOf_m1, jl, jn1, ↓reduceIte, e_X2_heldAfter_40, nI_add]
theorem v_heldAfter {w : Wd} {k : Nat} {L : Nat → Nat} {P : Nat → Nat → Nat} (hR : RP w k L P) (hW : WP L P) {t d : Nat} (ht : t < 4) (hd : d < 2147483647) (hw : wl P t (min d (L t)) = true) :
    f_X2_heldAfter k (nI t) (nI d) w = some (nI (hx P t (min d (L t))), w) := by
  rw [e_X2_heldAfter]
  simp only [jl]
  have := v_heldAfter_lp hR hW ht hd hw d 0 rfl
  rw [Nat.zero_min] at this
  exact this
theorem v_isWell_lp {w : Wd} {k : Nat} {L : Nat → Nat} {P : Nat → Nat → Nat} (hR : RP w k L P) (hW : WP L P) {t : Nat} (ht : t < 4) : ∀ (n j : Nat), n + j = L t → wl P t j = true →
    x_X2_isWell 2 [] [some (zr 2 k), some (zi (nI t)), some (zi (nI j)), none, none] w = some (nI (if wl P t (L t) then 1 else 0), w) := by
  have hL := (hW t ht).1
  intro n
  induction n with
  | zero =>
    intro j hj hwl
    rw [e_X2_isWell_2]
    simp (disch := omega) only [jchk, jcl, hR.1 t ht, jle, jl, jzb1]
    rw [if_pos (by omega), if_pos (by rw [show L t = j by omega]; exact hwl)]
  | succ n ih =>
    intro j hj hwl
    have hjL : j < L t := by omega
    have hP := (hW t ht).2 j hjL
    have h16 := hx_lt P t j
    have hm : P t j % 4 < 4 := Nat.mod_lt _ (by decide)
    have hsame : wk P t j = true → x_X2_isWell 2 [] [some (zr 2 k), some (zi (nI t)), some (zi (nI (j + 1))), none, none] w = some (nI (if wl P t (L t) then 1 else 0), w) := fun h => ih (j + 1) (by omega) (by rw [wl, hwl, h]; rfl)
    have hno : wk P t j = false → some (nI 0, w) = some (nI (if wl P t (L t) then 1 else 0), w) := fun h => by rw [wl_no h hjL]; rfl
    have hheld := v_heldAfter hR hW ht (d := j) (by omega) (by rw [show min j (L t) = j by omega]; exact hwl)
    rw [show min j (L t) = j by omega] at hheld
    rw [e_X2_isWell_2]
    simp (disch := omega) only [jchk, jcl, hR.1 t ht, jle, jl, v_stepOf hR hW ht hjL, joc, v_nameOf, hheld, v_isIn, v_kindOf, jeq, j01, jzb0, nI_add]
    rw [if_neg (by omega)]
    by_cases h2 : P t j / 4 = 2
    · have h3 : ¬ P t j / 4 = 3 := by omega
      simp only [if_pos h2, if_neg h3]
      cases hb : (hx P t j).testBit (P t j % 4) with
      | false =>
        rw [if_pos rfl]
        exact hsame (by unfold wk; rw [if_pos h2, hb]; rfl)
      | true =>
        rw [if_neg (by decide)]
        exact hno (by unfold wk; rw [if_pos h2, hb]; rfl)
    · simp only [if_neg h2]
      by_cases h3 : P t j / 4 = 3
      · simp only [if_pos h3]
        cases hb : (hx P t j).testBit (P t j % 4) with
        | false =>
          rw [if_pos rfl]
          exact hno (by unfold wk; rw [if_neg h2, if_pos h3, hb])
        | true =>
          rw [if_neg (by decide)]
          exact hsame (by unfold wk; rw [if_neg h2, if_pos h3, hb])
      · simp only [if_neg h3]
        exact hsame (by unfold wk; rw [if_neg h2, if_neg h3])
theorem v_isWell {w : Wd} {k : Nat} {L : Nat → Nat} {P : Nat → Nat → Nat} (hR : RP w k L P) (hW : WP L P) {t : Nat} (ht : t < 4) : f_X2_isWell k (nI t) w = some (nI (if wl P t (L t) then 1 else 0), w) := by
  rw [e_X2_isWell]
  simp only [jl]
  exact v_isWell_lp hR hW ht (L t) 0 rfl rfl
theorem and_pow : ∀ h : Nat, h < 16 → ∀ m : Nat, m < 4 → (h &&& 2 ^ m = 0 ↔ h.testBit m = false) := by decide +kernel