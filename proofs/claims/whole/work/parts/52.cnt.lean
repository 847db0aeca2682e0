/-! COUNTS and steps alike; texts alike. -/
section CT
/-- a call of both answers alike, and both hold the same afterwards -/
def A2 {α : Type} (fx fm : Wd → Option (α × Wd)) : Prop := ∀ g w wm, GI g → CI w g → MI wm g → ∃ v w' g' wm', fx w = some (v, w') ∧ Fr SCl w w' ∧ GI g' ∧ CI w' g' ∧ fm wm = some (v, wm') ∧ Fr SMd wm wm' ∧ MI wm' g'
theorem AL.two {α : Type} {fx fm : Wd → Option (α × Wd)} (h : AL fx fm) : A2 fx fm := fun g w wm hG hC hM => by
  obtain ⟨v, w', g', h1, h2, h3, h4, h5⟩ := h g w hG hC
  obtain ⟨wm', h6, h7, h8⟩ := h5 wm hM
  exact ⟨v, w', g', wm', h1, h2, h3, h4, h6, h7, h8⟩
theorem a2_put (y : Int64) : A2 (f_X7_put 0 y) (f_X8_put 0 y) := fun g w wm hG hC hM => by
  obtain ⟨v, w', wm', p', S', h1, h2, h3, h4, h5, h6, h7, h8, -⟩ := q_put y hG.1 hC.1.1 wm hM.1
  exact ⟨v, w', ((p', S'), g.2), wm', h1, h3.sub sub_SPd, ⟨h6, hG.2⟩, ⟨CJ_pad h3 h7 hC.1, CS_fr h3 rfl rfl rfl rfl rfl rfl hC.2⟩, h2, h4.sub sub_SPm, MI_pad h4 h5 h8 hM⟩
theorem a2_wipe : A2 (f_X7_wipe 0) (f_X8_wipe 0) := fun g w wm hG hC hM => by
  obtain ⟨h1, h2⟩ := q_wipe hG.1 hC.1.1 hM.1
  have f1 : Fr SPd w (wI w 1 0 1 (nI 0)) := Fr.rf.wI (by decide)
  have f2 : Fr SPm wm (wI wm 8 0 7 (nI 0)) := Fr.rf.wI (by decide)
  have h7 : S07 wm (wI wm 8 0 7 (nI 0)) := ⟨fun j hj => by rw [jw1, if_neg (fun z => hj z.2.2)], rfl⟩
  exact ⟨_, _, ((0, g.1.2), g.2), _, h1, f1.sub sub_SPd, ⟨⟨Nat.zero_le _, fun i hi => absurd hi (Nat.not_lt_zero _)⟩, hG.2⟩, ⟨CJ_pad f1 (p' := 0) (S' := g.1.2) ⟨by rw [jw1, if_pos ⟨rfl, rfl, rfl⟩], fun i hi => (by omega)⟩ hC.1, CS_fr f1 rfl rfl rfl rfl rfl rfl hC.2⟩, h2, f2.sub sub_SPm, MI_pad f2 h7 (p' := 0) (S' := g.1.2) ⟨by rw [jw1, if_pos ⟨rfl, rfl, rfl⟩], fun i hi => (by omega)⟩ hM⟩
theorem a2_fault (x : Int32) : A2 (f_X7_fault 0 x) (f_X8_fault 0 x) := fun g w wm hG hC hM => by
  obtain ⟨v, h1, h2⟩ := q_fault hG.1 hC.1.1 hM.1 x
  exact ⟨v, w, g, wm, h1, Fr.rf, hG, hC, h2, Fr.rf, hM⟩
/-! conflicts -/
variable (L : Nat → Nat) (P : Nat → Nat → Nat)
def cfI (c u : Nat) : Nat → Nat
  | 0 => 0
  | m + 1 => cfI c u m + if cm c (P u m) = true then 0 else 1
def cfO (t c : Nat) : Nat → Nat
  | 0 => 0
  | u + 1 => cfO t c u + if u = t then 0 else cfI P c u (L u)
def prI (t : Nat) : Nat → Nat
  | 0 => 0
  | m + 1 => prI t m + cfO L P t (P t m) 4
def prO : Nat → Nat
  | 0 => 0
  | t + 1 => prO t + prI L P t (L t)
variable {L : Nat → Nat} {P : Nat → Nat → Nat}
theorem cfI_le (c u : Nat) : ∀ m, cfI P c u m ≤ m
  | 0 => Nat.le_refl _
  | m + 1 => by
    have := cfI_le c u m
    rw [cfI]
    split <;> omega
theorem cfO_le (hW : WP L P) (t c : Nat) : ∀ u, u ≤ 4 → cfO L P t c u ≤ 6 * u
  | 0, _ => Nat.le_refl _
  | u + 1, h => by
    have := cfO_le hW t c u (by omega)
    have := cfI_le (P := P) c u (L u)
    have := (hW u (by omega)).1
    rw [cfO]
    split <;> omega
theorem prI_le (hW : WP L P) (t : Nat) : ∀ m, prI L P t m ≤ 24 * m
  | 0 => Nat.le_refl _
  | m + 1 => by
    have := prI_le hW t m
    have := cfO_le hW t (P t m) 4 (Nat.le_refl _)
    rw [prI]
    omega
theorem prO_le (hW : WP L P) : ∀ t, t ≤ 4 → prO L P t ≤ 144 * t
  | 0, _ => Nat.le_refl _
  | t + 1, h => by
    have := prO_le hW t (by omega)
    have := prI_le hW t (L t)
    have := (hW t (by omega)).1
    rw [prO]
    omega
theorem v_conf_in (hW : WP L P) {w : Wd} (hR : RP w 0 L P) {t c u : Nat} (ht : t < 4) (hc : c < 16) (hu : u < 4) {a : Nat} : ∀ (k m : Nat), k + m = L u →
    x_X2_conflictsOf 22 [] [some (zr 2 0), some (zi (nI t)), none, some (zi (nI (a + if u = t then 0 else cfI P c u m))), some (zi (nI c)), some (zi (nI u)), some (zi (nI m))] w = x_X2_conflictsOf 13 [] [some (zr 2 0), some (zi (nI t)), none, some (zi (nI (a + if u = t then 0 else cfI P c u (L u)))), some (zi (nI c)), some (zi (nI (u + 1))), none] w := by
  have hL := (hW u hu).1
  intro k
  induction k with
  | zero =>
    intro m hm
    have e : m = L u := by omega
    rw [e_X2_conflictsOf_22]
    simp (disch := omega) only [jchk, jcl, hR.1 u hu, jle, jl, nI_add]
    rw [if_pos (by omega), e]
  | succ k ih =>
    intro m hm
    have hmL : m < L u := by omega
    rw [← ih (m + 1) (by omega), e_X2_conflictsOf_22]
    simp (disch := omega) only [jchk, jcl, hR.1 u hu, jle, jl, nI_add, jeq, v_stepOf hR hW hu hmL, joc, v_commute hc (P_lt hW hu hmL), j01]
    rw [if_neg (by omega)]
    by_cases e : u = t
    · rw [if_pos e, if_pos e, if_pos e]
    · rw [if_neg e, if_neg e, if_neg e, cfI]
      cases cm c (P u m) with
      | false => rw [if_pos rfl, if_neg (by decide), Nat.add_assoc]
      | true => rw [if_neg (by decide), if_pos rfl]; rfl
theorem v_conf (hW : WP L P) {w : Wd} (hR : RP w 0 L P) {t s : Nat} (ht : t < 4) (hs : s < L t) : f_X2_conflictsOf 0 (nI t) (nI s) w = some (nI (cfO L P t (P t s) 4), w) := by
  have hc := P_lt hW ht hs
  have st : ∀ u, u < 4 → x_X2_conflictsOf 13 [] [some (zr 2 0), some (zi (nI t)), none, some (zi (nI (cfO L P t (P t s) u))), some (zi (nI (P t s))), some (zi (nI u)), none] w = x_X2_conflictsOf 13 [] [some (zr 2 0), some (zi (nI t)), none, some (zi (nI (cfO L P t (P t s) (u + 1)))), some (zi (nI (P t s))), some (zi (nI (u + 1))), none] w := fun u hu => by
    have h := v_conf_in hW hR ht hc hu (a := cfO L P t (P t s) u) (L u) 0 (by omega)
    rw [e_X2_conflictsOf_13]
    simp (disch := omega) only [jl, jle]
    rw [if_neg (by omega), cfO, ← h]
    congr 2
    have : (if u = t then 0 else cfI P (P t s) u 0) = 0 := by split <;> rfl
    rw [this]
    rfl
  rw [e_X2_conflictsOf, v_stepOf hR hW ht hs, joc]
  simp only [jl]
  rw [show (0 : Nat) = cfO L P t (P t s) 0 from rfl]
  show x_X2_conflictsOf 13 [] [some (zr 2 0), some (zi (nI t)), none, some (zi (nI (cfO L P t (P t s) 0))), some (zi (nI (P t s))), some (zi (nI 0)), none] w = _
  rw [st 0 (by decide), st 1 (by decide), st 2 (by decide), st 3 (by decide), e_X2_conflictsOf_13]
  simp (disch := omega) only [jl, jle, Nat.reduceAdd, Nat.le_refl, ↓reduceIte]
theorem u_conf_in (hW : WP L P) {w : Wd} (hR : RQ w 0 0 L P) {t s u : Nat} (ht : t < 4) (hs : s < L t) (hu : u < 4) {a : Nat} : ∀ (k m : Nat), k + m = L u →
    x_X8_notWith 14 [] [some (zr 8 0), some (zi (nI t)), some (zi (nI s)), some (zi (nI (a + if u = t then 0 else cfI P (P t s) u m))), some (zi (nI u)), some (zi (nI m))] w = x_X8_notWith 5 [] [some (zr 8 0), some (zi (nI t)), some (zi (nI s)), some (zi (nI (a + if u = t then 0 else cfI P (P t s) u (L u)))), some (zi (nI (u + 1))), none] w := by
  have hL := (hW u hu).1
  have hLu := hR.1 u hu
  rw [Nat.zero_add] at hLu
  intro k
  induction k with
  | zero =>
    intro m hm
    have e : m = L u := by omega
    rw [e_X8_notWith_14]
    simp (disch := omega) only [jchk, jcl, hLu, jle, jl, nI_add]
    rw [if_pos (by omega), e]
  | succ k ih =>
    intro m hm
    have hmL : m < L u := by omega
    rw [e_X8_notWith_14]
    simp (disch := omega) only [jchk, jcl, hLu, jle, jl, nI_add, jeq, u_step hR hW hu hmL, u_step hR hW ht hs, joc, u_commute (P_lt hW ht hs) (P_lt hW hu hmL), j01]
    rw [if_neg (by omega)]
    by_cases e : u = t
    · rw [if_pos e, if_pos e, if_pos e]
    · rw [if_neg e, if_neg e, if_neg e]
      have hi := ih (m + 1) (by omega)
      rw [if_neg e, if_neg e, cfI] at hi
      rw [← hi]
      cases cm (P t s) (P u m) with
      | false => rw [if_pos rfl, if_neg (by decide), Nat.add_assoc]
      | true => rw [if_neg (by decide), if_pos rfl, Nat.add_zero]; rfl
theorem u_conf (hW : WP L P) {w : Wd} (hR : RQ w 0 0 L P) {t s : Nat} (ht : t < 4) (hs : s < L t) : f_X8_notWith 0 (nI t) (nI s) w = some (nI (cfO L P t (P t s) 4), w) := by
  have hL := (hW t ht).1
  have st : ∀ u, u < 4 → x_X8_notWith 5 [] [some (zr 8 0), some (zi (nI t)), some (zi (nI s)), some (zi (nI (cfO L P t (P t s) u))), some (zi (nI u)), none] w = x_X8_notWith 5 [] [some (zr 8 0), some (zi (nI t)), some (zi (nI s)), some (zi (nI (cfO L P t (P t s) (u + 1)))), some (zi (nI (u + 1))), none] w := fun u hu => by
    have h := u_conf_in hW hR ht hs hu (a := cfO L P t (P t s) u) (L u) 0 (by omega)
    rw [e_X8_notWith_5]
    simp (disch := omega) only [jl, jle]
    rw [if_neg (by omega), cfO, ← h]
    congr 2
    have : (if u = t then 0 else cfI P (P t s) u 0) = 0 := by split <;> rfl
    rw [this]
    rfl
  rw [e_X8_notWith]
  simp only [jl]
  show x_X8_notWith 5 [] [some (zr 8 0), some (zi (nI t)), some (zi (nI s)), some (zi (nI (cfO L P t (P t s) 0))), some (zi (nI 0)), none] w = _
  rw [st 0 (by decide), st 1 (by decide), st 2 (by decide), st 3 (by decide), e_X8_notWith_5]
  simp (disch := omega) only [jl, jle, Nat.reduceAdd, Nat.le_refl, ↓reduceIte]
theorem v_pairs_in (hW : WP L P) {w : Wd} (hR : RP w 0 L P) {t a : Nat} (ht : t < 4) : ∀ (k m : Nat), k + m = L t →
    x_X2_conflictingPairs 11 [] [some (zr 2 0), some (zi (nI (a + prI L P t m))), some (zi (nI t)), some (zi (nI m))] w = x_X2_conflictingPairs 4 [] [some (zr 2 0), some (zi (nI (a + prI L P t (L t)))), some (zi (nI (t + 1))), none] w := by
  have hL := (hW t ht).1
  intro k
  induction k with
  | zero =>
    intro m hm
    have e : m = L t := by omega
    rw [e_X2_conflictingPairs_11]
    simp (disch := omega) only [jchk, jcl, hR.1 t ht, jle, jl, nI_add]
    rw [if_pos (by omega), e]
  | succ k ih =>
    intro m hm
    rw [← ih (m + 1) (by omega), e_X2_conflictingPairs_11]
    simp (disch := omega) only [jchk, jcl, hR.1 t ht, jle, jl, nI_add, v_conf hW hR ht (show m < L t by omega), joc]
    rw [if_neg (by omega), prI, Nat.add_assoc]
theorem v_pairs (hW : WP L P) {w : Wd} (hR : RP w 0 L P) : f_X2_conflictingPairs 0 w = some (nI (prO L P 4 / 2), w) := by
  have hle := prO_le hW 4 (Nat.le_refl _)
  have st : ∀ t, t < 4 → x_X2_conflictingPairs 4 [] [some (zr 2 0), some (zi (nI (prO L P t))), some (zi (nI t)), none] w = x_X2_conflictingPairs 4 [] [some (zr 2 0), some (zi (nI (prO L P (t + 1)))), some (zi (nI (t + 1))), none] w := fun t ht => by
    rw [prO, ← v_pairs_in hW hR (a := prO L P t) ht (L t) 0 (by omega), e_X2_conflictingPairs_4]
    simp (disch := omega) only [jl, jle]
    rw [if_neg (by omega)]
    rfl
  rw [e_X2_conflictingPairs]
  simp only [jl]
  show x_X2_conflictingPairs 4 [] [some (zr 2 0), some (zi (nI (prO L P 0))), some (zi (nI 0)), none] w = _
  rw [st 0 (by decide), st 1 (by decide), st 2 (by decide), st 3 (by decide), e_X2_conflictingPairs_4]
  simp (disch := omega) only [jl, jle, Nat.reduceAdd, Nat.le_refl, ↓reduceIte, jeq0, Nat.reduceEqDiff, jdiv]
theorem u_pairs_in (hW : WP L P) {w : Wd} (hR : RQ w 0 0 L P) {t a : Nat} (ht : t < 4) : ∀ (k m : Nat), k + m = L t →
    x_X8_count 94 [] [some (zr 8 0), none, some (zi (nI (a + prI L P t m))), some (zi (nI t)), some (zi (nI m))] w = x_X8_count 86 [] [some (zr 8 0), none, some (zi (nI (a + prI L P t (L t)))), some (zi (nI (t + 1))), none] w := by
  have hL := (hW t ht).1
  have hLu := hR.1 t ht
  rw [Nat.zero_add] at hLu
  intro k
  induction k with
  | zero =>
    intro m hm
    have e : m = L t := by omega
    rw [e_X8_count_94]
    simp (disch := omega) only [jchk, jcl, hLu, jle, jl, nI_add]
    rw [if_pos (by omega), e]
  | succ k ih =>
    intro m hm
    rw [← ih (m + 1) (by omega), e_X8_count_94]
    simp (disch := omega) only [jchk, jcl, hLu, jle, jl, nI_add, u_conf hW hR ht (show m < L t by omega), joc]
    rw [if_neg (by omega), prI, Nat.add_assoc]
theorem u_pairs (hW : WP L P) {w : Wd} (hR : RQ w 0 0 L P) : x_X8_count 86 [] [some (zr 8 0), none, some (zi (nI 0)), some (zi (nI 0)), none] w = some (nI (prO L P 4 / 2), w) := by
  have hle := prO_le hW 4 (Nat.le_refl _)
  have st : ∀ t, t < 4 → x_X8_count 86 [] [some (zr 8 0), none, some (zi (nI (prO L P t))), some (zi (nI t)), none] w = x_X8_count 86 [] [some (zr 8 0), none, some (zi (nI (prO L P (t + 1)))), some (zi (nI (t + 1))), none] w := fun t ht => by
    rw [prO, ← u_pairs_in hW hR (a := prO L P t) ht (L t) 0 (by omega), e_X8_count_86]
    simp (disch := omega) only [jl, jle]
    rw [if_neg (by omega)]
    rfl
  show x_X8_count 86 [] [some (zr 8 0), none, some (zi (nI (prO L P 0))), some (zi (nI 0)), none] w = _
  rw [st 0 (by decide), st 1 (by decide), st 2 (by decide), st 3 (by decide), e_X8_count_86]
  simp (disch := omega) only [jl, jle, Nat.reduceAdd, Nat.le_refl, ↓reduceIte, jeq0, Nat.reduceEqDiff, jdiv]
theorem v_allSteps {w : Wd} (hR : RP w 0 L P) : f_X2_allSteps 0 w = some (nI (L 0 + L 1 + L 2 + L 3), w) := by
  have st : ∀ t a, t < 4 → x_X2_allSteps 4 [] [some (zr 2 0), some (zi (nI a)), some (zi (nI t))] w = x_X2_allSteps 4 [] [some (zr 2 0), some (zi (nI (a + L t))), some (zi (nI (t + 1)))] w := fun t a ht => by
    rw [e_X2_allSteps_4]
    simp (disch := omega) only [jl, jle, jchk, jcl, hR.1 t ht, nI_add]
    rw [if_neg (by omega)]
  rw [e_X2_allSteps]
  simp only [jl]
  rw [st 0 _ (by decide), st 1 _ (by decide), st 2 _ (by decide), st 3 _ (by decide), e_X2_allSteps_4]
  simp (disch := omega) only [jl, jle, Nat.reduceAdd, Nat.le_refl, ↓reduceIte, Nat.zero_add]
theorem u_stepsAll {w : Wd} (hR : RQ w 0 0 L P) : f_X8_stepsAll 0 w = some (nI (L 0 + L 1 + L 2 + L 3), w) := by
  have h0 := hR.1 0 (by decide)
  have h1 := hR.1 1 (by decide)
  have h2 := hR.1 2 (by decide)
  have h3 := hR.1 3 (by decide)
  simp only [Nat.zero_add] at h0 h1 h2 h3
  rw [e_X8_stepsAll]
  simp (disch := omega) only [jl, jchk, jcl, h0, h1, h2, h3, nI_add]
end CT
