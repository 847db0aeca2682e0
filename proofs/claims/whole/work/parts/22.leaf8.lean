/-! SPECIFICATION WORDS, and the leaves of the reference. -/
def g7 (t : Nat) : Nat := if t = 0 then 343 else if t = 1 then 49 else if t = 2 then 7 else 1
def d7 (n t : Nat) : Nat := if t < 4 then n / g7 t % 7 else 0
def WP (L : Nat → Nat) (P : Nat → Nat → Nat) : Prop := ∀ t, t < 4 → L t ≤ 6 ∧ ∀ s, s < L t → P t s < 16
/-- programs in the reference's rows, from a place on -/
def RQ (w : Wd) (i o : Nat) (L : Nat → Nat) (P : Nat → Nat → Nat) : Prop := (∀ t, t < 4 → w.1 30 i (o + t) = nI (L t)) ∧ ∀ t s, t < 4 → s < L t → w.1 30 i (o + (4 + 6 * t + s)) = nI (P t s)
/-- programs in the class's rows -/
def RP (w : Wd) (k : Nat) (L : Nat → Nat) (P : Nat → Nat → Nat) : Prop := (∀ t, t < 4 → w.1 12 k t = nI (L t)) ∧ ∀ t s, t < 4 → s < L t → w.1 11 k (t * 6 + s) = nI (P t s)
/-- only the cells of S change -/
def Fr (S : Nat → Nat → Bool) (w w' : Wd) : Prop := ∀ t i, S t i = false → w'.1 t i = w.1 t i ∧ w'.2 t i = w.2 t i
theorem Fr.rf {S : Nat → Nat → Bool} {w : Wd} : Fr S w w := fun _ _ _ => ⟨rfl, rfl⟩
theorem Fr.tr {S : Nat → Nat → Bool} {w w1 w2 : Wd} (h1 : Fr S w w1) (h2 : Fr S w1 w2) : Fr S w w2 := fun t i h => ⟨((h2 t i h).1).trans (h1 t i h).1, ((h2 t i h).2).trans (h1 t i h).2⟩
theorem Fr.mono {S S' : Nat → Nat → Bool} {w w1 : Wd} (h : Fr S w w1) (hs : ∀ t i, S' t i = false → S t i = false) : Fr S' w w1 := fun t i hi => h t i (hs t i hi)
theorem Fr.wI {S : Nat → Nat → Bool} {w w1 : Wd} (h : Fr S w w1) {t i j : Nat} {x : Int32} (hs : S t i = true) : Fr S w (wI w1 t i j x) := fun t' i' hi => by
  have hn : ¬ (t' = t ∧ i' = i) := by
    rintro ⟨rfl, rfl⟩
    rw [hs] at hi
    cases hi
  obtain ⟨h1, h2⟩ := wI_ne w1 t i j x t' i' hn
  exact ⟨h1.trans (h t' i' hi).1, h2.trans (h t' i' hi).2⟩
theorem Fr.wL {S : Nat → Nat → Bool} {w w1 : Wd} (h : Fr S w w1) {t i j : Nat} {x : Int64} (hs : S t i = true) : Fr S w (wL w1 t i j x) := fun t' i' hi => by
  have hn : ¬ (t' = t ∧ i' = i) := by
    rintro ⟨rfl, rfl⟩
    rw [hs] at hi
    cases hi
  obtain ⟨h1, h2⟩ := wL_ne w1 t i j x t' i' hn
  exact ⟨h1.trans (h t' i' hi).1, h2.trans (h t' i' hi).2⟩
theorem Fr.wC {S : Nat → Nat → Bool} {w w1 : Wd} (h : Fr S w w1) {t0 i0 sp t i dp n : Nat} (hs : S t i = true) : Fr S w (wC w1 t0 i0 sp t i dp n) := fun t' i' hi => by
  have hn : ¬ (t' = t ∧ i' = i) := by
    rintro ⟨rfl, rfl⟩
    rw [hs] at hi
    cases hi
  obtain ⟨h1, h2⟩ := wC_ne w1 t0 i0 sp t i dp n t' i' hn
  exact ⟨h1.trans (h t' i' hi).1, h2.trans (h t' i' hi).2⟩
theorem Fr.RQ {S : Nat → Nat → Bool} {w w1 : Wd} {i o : Nat} {L : Nat → Nat} {P : Nat → Nat → Nat} (h : Fr S w w1) (hs : S 30 i = false) (hR : RQ w i o L P) : RQ w1 i o L P := by
  refine ⟨fun t ht => ?_, fun t s ht hk => ?_⟩
  · rw [(h _ _ hs).1]; exact hR.1 t ht
  · rw [(h _ _ hs).1]; exact hR.2 t s ht hk
theorem Fr.RP {S : Nat → Nat → Bool} {w w1 : Wd} {k : Nat} {L : Nat → Nat} {P : Nat → Nat → Nat} (h : Fr S w w1) (hs : S 11 k = false) (hs2 : S 12 k = false) (hR : RP w k L P) : RP w1 k L P := by
  refine ⟨fun t ht => ?_, fun t s ht hk => ?_⟩
  · rw [(h _ _ hs2).1]; exact hR.1 t ht
  · rw [(h _ _ hs).1]; exact hR.2 t s ht hk
def hbit (c : Nat) : Nat := if c / 4 < 2 then 0 else 2 ^ (c % 4)
/-- locks held behind k steps -/
def hx (P : Nat → Nat → Nat) (t : Nat) : Nat → Nat
  | 0 => 0
  | k + 1 => hx P t k ^^^ hbit (P t k)
theorem hbit_lt {c : Nat} : hbit c < 16 := by
  unfold hbit
  split
  · decide
  · have : c % 4 < 4 := Nat.mod_lt _ (by decide)
    have h2 : 2 ^ (c % 4) ≤ 2 ^ 3 := Nat.pow_le_pow_right (by decide) (by omega)
    omega
theorem hx_lt (P : Nat → Nat → Nat) (t : Nat) : ∀ k, hx P t k < 16
  | 0 => Nat.le_of_ble_eq_true rfl
  | k + 1 => Nat.xor_lt_two_pow (n := 4) (hx_lt P t k) hbit_lt
def or4 (f : Nat → Nat) : Nat := ((f 0 ||| f 1) ||| f 2) ||| f 3
def goS (L : Nat → Nat) (P : Nat → Nat → Nat) (s : Nat → Nat) (t : Nat) : Bool := decide (s t < L t) && (!decide (P t (s t) / 4 = 2) || !(or4 fun u => if u = t then 0 else hx P u (s u)).testBit (P t (s t) % 4))
def endS (L : Nat → Nat) (P : Nat → Nat → Nat) (s : Nat → Nat) : Bool := !goS L P s 0 && !goS L P s 1 && !goS L P s 2 && !goS L P s 3
def nxS (L : Nat → Nat) (s : Nat → Nat) : Bool := decide (s 0 < L 0) || decide (s 1 < L 1) || decide (s 2 < L 2) || decide (s 3 < L 3)
def deadS (L : Nat → Nat) (P : Nat → Nat → Nat) (s : Nat → Nat) : Bool := endS L P s && nxS L s
theorem u_in (x a b : Int32) (w : Wd) : f_X8_in x a b w = some (nI (if a ≤ x ∧ x ≤ b then 1 else 0), w) := by
  rw [e_X8_in]
  simp only [jl, jzb0, jzb1]
  by_cases h1 : x < a
  · rw [if_pos h1, if_neg (fun h => Int32.not_le.mpr h1 h.1)]
  · rw [if_neg h1]
    by_cases h2 : b < x
    · rw [if_pos h2, if_neg (fun h => Int32.not_le.mpr h2 h.2)]
    · rw [if_neg h2, if_pos ⟨Int32.not_lt.mp h1, Int32.not_lt.mp h2⟩]
theorem u_in_n {n b : Nat} (h : n < 2147483648) (hb : b < 2147483648) (w : Wd) : f_X8_in (nI n) (nI 0) (nI b) w = some (nI (if n ≤ b then 1 else 0), w) := by
  rw [u_in]
  simp (disch := omega) only [jle, Nat.zero_le, true_and]
theorem u_in_neg {x : Int32} (h : x < 0) (b : Int32) (w : Wd) : f_X8_in x (nI 0) b w = some (nI 0, w) := by
  rw [u_in, if_neg]
  exact fun h2 => Int32.not_le.mpr h h2.1
theorem u_isThread {n : Nat} (h : n < 2147483648) (w : Wd) : f_X8_isThread (nI n) w = some (nI (if n < 4 then 1 else 0), w) := by
  rw [e_X8_isThread]
  simp only [jl]
  rw [u_in_n h (by decide), joc]
  by_cases h4 : n < 4
  · rw [if_pos (by omega), if_pos h4, jzb1]
  · rw [if_neg (by omega), if_neg h4, jzb0]
theorem u_isThread_neg {x : Int32} (h : x < 0) (w : Wd) : f_X8_isThread x w = some (nI 0, w) := by
  rw [e_X8_isThread]
  simp only [jl]
  rw [u_in_neg h, joc, jzb0]
theorem u_step {w : Wd} {L : Nat → Nat} {P : Nat → Nat → Nat} (hR : RQ w 0 0 L P) (hW : WP L P) {t s : Nat} (ht : t < 4) (hs : s < L t) (k : Nat) : f_X8_step k (nI t) (nI s) w = some (nI (P t s), w) := by
  have hL := (hW t ht).1
  rw [e_X8_step]
  simp (disch := omega) only [jl, nI_add, jmul, jchk, jcl]
  have := hR.2 t s ht hs
  rw [Nat.zero_add] at this
  rw [this]
theorem u_commute {c d : Nat} (hc : c < 16) (hd : d < 16) (w : Wd) : f_X8_commute (nI c) (nI d) w = some (nI (if cm c d then 1 else 0), w) := by
  rw [e_X8_commute]
  simp (disch := omega) only [jl, jeq0, jdiv, jle, e_X8_commute_19, e_X8_commute_54, jmul, jsub, jmod, jeq, jzb0, jzb1, Nat.reduceEqDiff, ↓reduceIte]
  have e2 : (2 ≤ c / 4) = ¬ (c / 4 ≤ 1) := propext (by omega)
  have e3 : (2 ≤ d / 4) = ¬ (d / 4 ≤ 1) := propext (by omega)
  have e4 : (c / 4 < 2) = (c / 4 ≤ 1) := propext (by omega)
  have e5 : (d / 4 < 2) = (d / 4 ≤ 1) := propext (by omega)
  unfold cm
  simp only [e2, e3, e4, e5]
  by_cases h1 : c % 4 = d % 4 <;> by_cases h2 : c / 4 ≤ 1 <;> by_cases h3 : d / 4 ≤ 1 <;> by_cases h4 : c / 4 = 1 <;> by_cases h5 : d / 4 = 1 <;> by_cases h6 : c / 4 = 0 <;> by_cases h7 : d / 4 = 0 <;> first
    | (exfalso; omega)
    | simp [h1, h2, h3, h4, h5, h6, h7]
theorem u_figure {t : Nat} (ht : t < 4) (w : Wd) : f_X8_figure (nI t) w = some (nI (g7 t), w) := by
  rw [e_X8_figure]
  simp (disch := omega) only [jl, jeq0, jeq]
  unfold g7
  repeat' split
  all_goals first | rfl | (exfalso; omega)
theorem g7_pos (t : Nat) : 0 < g7 t ∧ g7 t ≤ 343 := by
  unfold g7
  repeat' split
  all_goals decide
theorem u_done {n t : Nat} (hn : n < 2147483648) (ht : t < 4) (w : Wd) : f_X8_done (nI n) (nI t) w = some (nI (d7 n t), w) := by
  have hg := g7_pos t
  have hq : n / g7 t < 2147483648 := Nat.lt_of_le_of_lt (Nat.div_le_self _ _) hn
  rw [e_X8_done, u_figure ht]
  simp (disch := omega) only [jl, joc, jeq0, jdiv, jmul, jsub, jmod, Nat.reduceEqDiff, ↓reduceIte]
  rw [if_neg (by omega)]
  unfold d7
  rw [if_pos ht]
theorem d7_lt (n t : Nat) : d7 n t < 7 := by
  unfold d7
  split
  · exact Nat.mod_lt _ (by decide)
  · decide
theorem u_hasNext {w : Wd} {L : Nat → Nat} {P : Nat → Nat → Nat} (hR : RQ w 0 0 L P) (hW : WP L P) {n t : Nat} (hn : n < 2147483648) (ht : t < 4) (k : Nat) : f_X8_hasNext k (nI n) (nI t) w = some (nI (if d7 n t < L t then 1 else 0), w) := by
  have hL := (hW t ht).1
  have hd := d7_lt n t
  have hl := hR.1 t ht
  rw [Nat.zero_add] at hl
  rw [e_X8_hasNext, u_done hn ht]
  simp (disch := omega) only [jl, joc, jchk, jcl, hl, jle, jzb0, jzb1]
  by_cases h : d7 n t < L t
  · rw [if_neg (by omega), if_pos h]
  · rw [if_pos (by omega), if_neg h]
theorem u_length {n : Nat} (hn : n < 2147483648) (k : Nat) (w : Wd) : f_X8_length k (nI n) w = some (nI (len4 (d7 n)), w) := by
  rw [e_X8_length]
  simp (disch := omega) only [jl, joc, u_done, nI_add]
  rfl
/-- only the row of held locks changes -/
def S32 (t i : Nat) : Bool := Nat.beq t 32 && Nat.beq i 0
theorem u_laysHeld_in {L : Nat → Nat} {P : Nat → Nat → Nat} (hW : WP L P) {k0 t : Nat} (ht : t < 4) : ∀ (n k : Nat) (w : Wd), n + k = L t → RQ w 0 0 L P → (∀ j, j ≤ k → w.1 32 0 (7 * t + j) = nI (hx P t j)) →
    ∃ w', x_X8_laysHeld 19 [] [some (zr 8 k0), some (zi (nI t)), some (zi (nI k)), none] w = x_X8_laysHeld 2 [] [some (zr 8 k0), some (zi (nI (t + 1))), none, none] w' ∧ Fr S32 w w' ∧ (∀ j, j ≤ L t → w'.1 32 0 (7 * t + j) = nI (hx P t j)) ∧ ∀ j, (j < 7 * t ∨ 7 * t + 7 ≤ j) → w'.1 32 0 j = w.1 32 0 j := by
  have hL := (hW t ht).1
  intro n
  induction n with
  | zero =>
    intro k w hk hR hI
    have hl := hR.1 t ht
    rw [Nat.zero_add] at hl
    refine ⟨w, ?_, Fr.rf, fun j hj => hI j (by omega), fun _ _ => rfl⟩
    rw [e_X8_laysHeld_19]
    simp (disch := omega) only [jl, jchk, jcl, hl, jle, nI_add]
    rw [if_pos (by omega)]
  | succ n ih =>
    intro k w hk hR hI
    have hl := hR.1 t ht
    rw [Nat.zero_add] at hl
    have hks : k < L t := by omega
    have hP := (hW t ht).2 k hks
    have h16 := hx_lt P t k
    have hb16 := hbit_lt (c := P t k)
    have hstep : x_X8_laysHeld 19 [] [some (zr 8 k0), some (zi (nI t)), some (zi (nI k)), none] w = x_X8_laysHeld 19 [] [some (zr 8 k0), some (zi (nI t)), some (zi (nI (k + 1))), none] (wI w 32 0 (7 * t + k + 1) (nI (hx P t (k + 1)))) := by
      rw [e_X8_laysHeld_19]
      have h2 : 2 ^ (P t k % 4) ≤ 2 ^ 3 := Nat.pow_le_pow_right (by decide) (by omega)
      simp (disch := omega) only [jl, jchk, jcl, hl, jle, nI_add, u_step hR hW ht hks, joc, jeq0, Nat.reduceEqDiff, ↓reduceIte, jdiv, jsub, jmod, jshl, e_X8_laysHeld_55, jmul, hI k (Nat.le_refl k), jxor, Nat.one_mul]
      rw [if_neg (by omega)]
      have e : hx P t (k + 1) = hx P t k ^^^ hbit (P t k) := rfl
      by_cases hc : 2 ≤ P t k / 4
      · rw [if_pos hc, e, hbit, if_neg (by omega)]
      · rw [if_neg hc, e, hbit, if_pos (by omega)]
    obtain ⟨w', h1, h2, h3, h4⟩ := ih (k + 1) (wI w 32 0 (7 * t + k + 1) (nI (hx P t (k + 1)))) (by omega) ((Fr.rf.wI (S := S32) rfl).RQ rfl hR) (fun j hj => by
      rw [jw1]
      by_cases hj2 : j = k + 1
      · rw [if_pos ⟨rfl, rfl, by omega⟩, hj2]
      · rw [if_neg (by omega)]
        exact hI j (by omega))
    refine ⟨w', hstep.trans h1, (Fr.rf.wI rfl).tr h2, h3, fun j hj => ?_⟩
    rw [h4 j hj, jw1, if_neg (by omega)]
theorem u_laysHeld_out {L : Nat → Nat} {P : Nat → Nat → Nat} (hW : WP L P) {k0 : Nat} : ∀ (n t : Nat) (w : Wd), n + t = 4 → RQ w 0 0 L P → (∀ u, u < t → ∀ j, j ≤ L u → w.1 32 0 (7 * u + j) = nI (hx P u j)) →
    ∃ w', x_X8_laysHeld 2 [] [some (zr 8 k0), some (zi (nI t)), none, none] w = some w' ∧ Fr S32 w w' ∧ ∀ u, u < 4 → ∀ j, j ≤ L u → w'.1 32 0 (7 * u + j) = nI (hx P u j) := by
  intro n
  induction n with
  | zero =>
    intro t w ht hR hI
    refine ⟨w, ?_, Fr.rf, fun u hu => hI u (by omega)⟩
    rw [e_X8_laysHeld_2]
    simp (disch := omega) only [jl, jle]
    rw [if_pos (by omega)]
  | succ n ih =>
    intro t w ht hR hI
    obtain ⟨w', h1, h2, h3, h4⟩ := u_laysHeld_in hW (k0 := k0) (t := t) (by omega) (L t) 0 (wI w 32 0 (7 * t) (nI 0)) rfl ((Fr.rf.wI (S := S32) rfl).RQ rfl hR) (fun j hj => by
      rw [jw1, if_pos ⟨rfl, rfl, by omega⟩, show j = 0 by omega]
      rfl)
    obtain ⟨w2, g1, g2, g3⟩ := ih (t + 1) w' (by omega) (h2.RQ rfl ((Fr.rf.wI (S := S32) rfl).RQ rfl hR)) (fun u hu j hj => by
      by_cases e : u = t
      · rw [e] at hj ⊢
        exact h3 j hj
      · have hLu := (hW u (by omega)).1
        rw [h4 _ (by omega), jw1, if_neg (by omega)]
        exact hI u (by omega) j hj)
    refine ⟨w2, ?_, ((Fr.rf.wI rfl).tr h2).tr g2, g3⟩
    rw [← g1, ← h1, e_X8_laysHeld_2]
    simp (disch := omega) only [jl, jle, jmul, jchk, jcl]
    rw [if_neg (by omega)]
def HH (w : Wd) (L : Nat → Nat) (P : Nat → Nat → Nat) : Prop := ∀ u, u < 4 → ∀ j, j ≤ L u → w.1 32 0 (7 * u + j) = nI (hx P u j)
theorem u_laysHeld {L : Nat → Nat} {P : Nat → Nat → Nat} (hW : WP L P) {w : Wd} (hR : RQ w 0 0 L P) (k0 : Nat) : ∃ w', f_X8_laysHeld k0 w = some w' ∧ Fr S32 w w' ∧ HH w' L P := by
  obtain ⟨w', h1, h2, h3⟩ := u_laysHeld_out hW (k0 := k0) 4 0 w rfl hR (fun u hu => by omega)
  exact ⟨w', by rw [e_X8_laysHeld]; exact h1, h2, h3⟩
