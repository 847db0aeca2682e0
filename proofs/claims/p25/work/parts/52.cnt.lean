/-! COUNTS and steps alike; texts alike. -/
section CT
/-! conflicts -/
variable (L : Nat → Nat) (P : Nat → Nat → Nat)
def cfI (c u : Nat) : Nat → Nat
  | 0 => 0
  | m + 1 => cfI c u m + if cm c (P u m) = true then 0 else 1
def cfO (t c : Nat) : Nat → Nat
  | 0 => 0
  | u + 1 => cfO t c u + if u = t then 0 else cfI P c u (L u)
def prI (t : Nat) : Nat → Nat
  | 0 => 0
  | m + 1 => prI t m + cfO L P t (P t m) 4
def prO : Nat → Nat
  | 0 => 0
  | t + 1 => prO t + prI L P t (L t)
variable {L : Nat → Nat} {P : Nat → Nat → Nat}
theorem cfI_le (c u : Nat) : ∀ m, cfI P c u m ≤ m
  | 0 => Nat.le_refl _
  | m + 1 => by
    have := cfI_le c u m
    rw [cfI]
    split <;> omega
theorem cfO_le (hW : WP L P) (t c : Nat) : ∀ u, u ≤ 4 → cfO L P t c u ≤ 6 * u
  | 0, _ => Nat.le_refl _
  | u + 1, h => by
    have := cfO_le hW t c u (by omega)
    have := cfI_le (P := P) c u (L u)
    have := (hW u (by omega)).1
    rw [cfO]
    split <;> omega
theorem prI_le (hW : WP L P) (t : Nat) : ∀ m, prI L P t m ≤ 24 * m
  | 0 => Nat.le_refl _
  | m + 1 => by
    have := prI_le hW t m
    have := cfO_le hW t (P t m) 4 (Nat.le_refl _)
    rw [prI]
    omega
theorem prO_le (hW : WP L P) : ∀ t, t ≤ 4 → prO L P t ≤ 144 * t
  | 0, _ => Nat.le_refl _
  | t + 1, h => by
    have := prO_le hW t (by omega)
    have := prI_le hW t (L t)
    have := (hW t (by omega)).1
    rw [prO]
    omega
theorem v_conf_in (hW : WP L P) {w : Wd} (hR : RP w 0 L P) {t c u : Nat} (ht : t < 4) (hc : c < 16) (hu : u < 4) {a : Nat} : ∀ (k m : Nat), k + m = L u →
    x_X2_conflictsOf 22 [] [some (zr 2 0), some (zi (nI t)), none, some (zi (nI (a + if u = t then 0 else cfI P c u m))), some (zi (nI c)), some (zi (nI u)), some (zi (nI m))] w = x_X2_conflictsOf 13 [] [some (zr 2 0), some (zi (nI t)), none, some (zi (nI (a + if u = t then 0 else cfI P c u (L u)))), some (zi (nI c)), some (zi (nI (u + 1))), none] w := by
  have hL := (hW u hu).1
  intro k
  induction k with
  | zero =>
    intro m hm
    have e : m = L u := by omega
    rw [e_X2_conflictsOf_22]
    simp (disch := omega) only [jchk, jcl, hR.1 u hu, jle, jl, nI_add]
    rw [if_pos (by omega), e]
  | succ k ih =>
    intro m hm
    have hmL : m < L u := by omega
    rw [← ih (m + 1) (by omega), e_X2_conflictsOf_22]
    simp (disch := omega) only [jchk, jcl, hR.1 u hu, jle, jl, nI_add, jeq, v_stepOf hR hW hu hmL, joc, v_commute hc (P_lt hW hu hmL), j01]
    rw [if_neg (by omega)]
    by_cases e : u = t
    · rw [if_pos e, if_pos e, if_pos e]
    · rw [if_neg e, if_neg e, if_neg e, cfI]
      cases cm c (P u m) with
      | false => rw [if_pos rfl, if_neg (by decide), Nat.add_assoc]
      | true => rw [if_neg (by decide), if_pos rfl]; rfl
theorem v_conf (hW : WP L P) {w : Wd} (hR : RP w 0 L P) {t s : Nat} (ht : t < 4) (hs : s < L t) : f_X2_conflictsOf 0 (nI t) (nI s) w = some (nI (cfO L P t (P t s) 4), w) := by
  have hc := P_lt hW ht hs
  have st : ∀ u, u < 4 → x_X2_conflictsOf 13 [] [some (zr 2 0), some (zi (nI t)), none, some (zi (nI (cfO L P t (P t s) u))), some (zi (nI (P t s))), some (zi (nI u)), none] w = x_X2_conflictsOf 13 [] [some (zr 2 0), some (zi (nI t)), none, some (zi (nI (cfO L P t (P t s) (u + 1)))), some (zi (nI (P t s))), some (zi (nI (u + 1))), none] w := fun u hu => by
    have h := v_conf_in hW hR ht hc hu (a := cfO L P t (P t s) u) (L u) 0 (by omega)
    rw [e_X2_conflictsOf_13]
    simp (disch := omega) only [jl, jle]
    rw [if_neg (by omega), cfO, ← h]
    congr 2
    have : (if u = t then 0 else cfI P (P t s) u 0) = 0 := by split <;> rfl
    rw [this]
    rfl
  rw [e_X2_conflictsOf, v_stepOf hR hW ht hs, joc]
  simp only [jl]
  rw [show (0 : Nat) = cfO L P t (P t s) 0 from rfl]
  show x_X2_conflictsOf 13 [] [some (zr 2 0), some (zi (nI t)), none, some (zi (nI (cfO L P t (P t s) 0))), some (zi (nI (P t s))), some (zi (nI 0)), none] w = _
  rw [st 0 (by decide), st 1 (by decide), st 2 (by decide), st 3 (by decide), e_X2_conflictsOf_13]
  simp (disch := omega) only [jl, jle, Nat.reduceAdd, Nat.le_refl, ↓reduceIte]
theorem v_pairs_in (hW : WP L P) {w : Wd} (hR : RP w 0 L P) {t a : Nat} (ht : t < 4) : ∀ (k m : Nat), k + m = L t →
    x_X2_conflictingPairs 11 [] [some (zr 2 0), some (zi (nI (a + prI L P t m))), some (zi (nI t)), some (zi (nI m))] w = x_X2_conflictingPairs 4 [] [some (zr 2 0), some (zi (nI (a + prI L P t (L t)))), some (zi (nI (t + 1))), none] w := by
  have hL := (hW t ht).1
  intro k
  induction k with
  | zero =>
    intro m hm
    have e : m = L t := by omega
    rw [e_X2_conflictingPairs_11]
    simp (disch := omega) only [jchk, jcl, hR.1 t ht, jle, jl, nI_add]
    rw [if_pos (by omega), e]
  | succ k ih =>
    intro m hm
    rw [← ih (m + 1) (by omega), e_X2_conflictingPairs_11]
    simp (disch := omega) only [jchk, jcl, hR.1 t ht, jle, jl, nI_add, v_conf hW hR ht (show m < L t by omega), joc]
    rw [if_neg (by omega), prI, Nat.add_assoc]
theorem v_pairs (hW : WP L P) {w : Wd} (hR : RP w 0 L P) : f_X2_conflictingPairs 0 w = some (nI (prO L P 4 / 2), w) := by
  have hle := prO_le hW 4 (Nat.le_refl _)
  have st : ∀ t, t < 4 → x_X2_conflictingPairs 4 [] [some (zr 2 0), some (zi (nI (prO L P t))), some (zi (nI t)), none] w = x_X2_conflictingPairs 4 [] [some (zr 2 0), some (zi (nI (prO L P (t + 1)))), some (zi (nI (t + 1))), none] w := fun t ht => by
    rw [prO, ← v_pairs_in hW hR (a := prO L P t) ht (L t) 0 (by omega), e_X2_conflictingPairs_4]
    simp (disch := omega) only [jl, jle]
    rw [if_neg (by omega)]
    rfl
  rw [e_X2_conflictingPairs]
  simp only [jl]
  show x_X2_conflictingPairs 4 [] [some (zr 2 0), some (zi (nI (prO L P 0))), some (zi (nI 0)), none] w = _
  rw [st 0 (by decide), st 1 (by decide), st 2 (by decide), st 3 (by decide), e_X2_conflictingPairs_4]
  simp (disch := omega) only [jl, jle, Nat.reduceAdd, Nat.le_refl, ↓reduceIte, jeq0, Nat.reduceEqDiff, jdiv]
theorem v_allSteps {w : Wd} (hR : RP w 0 L P) : f_X2_allSteps 0 w = some (nI (L 0 + L 1 + L 2 + L 3), w) := by
  have st : ∀ t a, t < 4 → x_X2_allSteps 4 [] [some (zr 2 0), some (zi (nI a)), some (zi (nI t))] w = x_X2_allSteps 4 [] [some (zr 2 0), some (zi (nI (a + L t))), some (zi (nI (t + 1)))] w := fun t a ht => by
    rw [e_X2_allSteps_4]
    simp (disch := omega) only [jl, jle, jchk, jcl, hR.1 t ht, nI_add]
    rw [if_neg (by omega)]
  rw [e_X2_allSteps]
  simp only [jl]
  rw [st 0 _ (by decide), st 1 _ (by decide), st 2 _ (by decide), st 3 _ (by decide), e_X2_allSteps_4]
  simp (disch := omega) only [jl, jle, Nat.reduceAdd, Nat.le_refl, ↓reduceIte, Nat.zero_add]
end CT
