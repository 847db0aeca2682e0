/-! SPECIFICATION WORDS, and the leaves of the reference. -/
def g7 (t : Nat) : Nat := if t = 0 then 343 else if t = 1 then 49 else if t = 2 then 7 else 1
def d7 (n t : Nat) : Nat := if t < 4 then n / g7 t % 7 else 0
def WP (L : Nat → Nat) (P : Nat → Nat → Nat) : Prop := ∀ t, t < 4 → L t ≤ 6 ∧ ∀ s, s < L t → P t s < 16
/-- programs in the class's rows -/
def RP (w : Wd) (k : Nat) (L : Nat → Nat) (P : Nat → Nat → Nat) : Prop := (∀ t, t < 4 → w.1 12 k t = nI (L t)) ∧ ∀ t s, t < 4 → s < L t → w.1 11 k (t * 6 + s) = nI (P t s)
/-- only the cells of S change -/
def Fr (S : Nat → Nat → Bool) (w w' : Wd) : Prop := ∀ t i, S t i = false → w'.1 t i = w.1 t i ∧ w'.2 t i = w.2 t i
theorem Fr.rf {S : Nat → Nat → Bool} {w : Wd} : Fr S w w := fun _ _ _ => ⟨rfl, rfl⟩
theorem Fr.tr {S : Nat → Nat → Bool} {w w1 w2 : Wd} (h1 : Fr S w w1) (h2 : Fr S w1 w2) : Fr S w w2 := fun t i h => ⟨((h2 t i h).1).trans (h1 t i h).1, ((h2 t i h).2).trans (h1 t i h).2⟩
theorem Fr.mono {S S' : Nat → Nat → Bool} {w w1 : Wd} (h : Fr S w w1) (hs : ∀ t i, S' t i = false → S t i = false) : Fr S' w w1 := fun t i hi => h t i (hs t i hi)
theorem Fr.wI {S : Nat → Nat → Bool} {w w1 : Wd} (h : Fr S w w1) {t i j : Nat} {x : Int32} (hs : S t i = true) : Fr S w (wI w1 t i j x) := fun t' i' hi => by
  have hn : ¬ (t' = t ∧ i' = i) := by
    rintro ⟨rfl, rfl⟩
    rw [hs] at hi
    cases hi
  obtain ⟨h1, h2⟩ := wI_ne w1 t i j x t' i' hn
  exact ⟨h1.trans (h t' i' hi).1, h2.trans (h t' i' hi).2⟩
theorem Fr.wL {S : Nat → Nat → Bool} {w w1 : Wd} (h : Fr S w w1) {t i j : Nat} {x : Int64} (hs : S t i = true) : Fr S w (wL w1 t i j x) := fun t' i' hi => by
  have hn : ¬ (t' = t ∧ i' = i) := by
    rintro ⟨rfl, rfl⟩
    rw [hs] at hi
    cases hi
  obtain ⟨h1, h2⟩ := wL_ne w1 t i j x t' i' hn
  exact ⟨h1.trans (h t' i' hi).1, h2.trans (h t' i' hi).2⟩
theorem Fr.wC {S : Nat → Nat → Bool} {w w1 : Wd} (h : Fr S w w1) {t0 i0 sp t i dp n : Nat} (hs : S t i = true) : Fr S w (wC w1 t0 i0 sp t i dp n) := fun t' i' hi => by
  have hn : ¬ (t' = t ∧ i' = i) := by
    rintro ⟨rfl, rfl⟩
    rw [hs] at hi
    cases hi
  obtain ⟨h1, h2⟩ := wC_ne w1 t0 i0 sp t i dp n t' i' hn
  exact ⟨h1.trans (h t' i' hi).1, h2.trans (h t' i' hi).2⟩
theorem Fr.RP {S : Nat → Nat → Bool} {w w1 : Wd} {k : Nat} {L : Nat → Nat} {P : Nat → Nat → Nat} (h : Fr S w w1) (hs : S 11 k = false) (hs2 : S 12 k = false) (hR : RP w k L P) : RP w1 k L P := by
  refine ⟨fun t ht => ?_, fun t s ht hk => ?_⟩
  · rw [(h _ _ hs2).1]; exact hR.1 t ht
  · rw [(h _ _ hs).1]; exact hR.2 t s ht hk
def hbit (c : Nat) : Nat := if c / 4 < 2 then 0 else 2 ^ (c % 4)
/-- locks held behind k steps -/
def hx (P : Nat → Nat → Nat) (t : Nat) : Nat → Nat
  | 0 => 0
  | k + 1 => hx P t k ^^^ hbit (P t k)
theorem hbit_lt {c : Nat} : hbit c < 16 := by
  unfold hbit
  split
  · decide
  · have : c % 4 < 4 := Nat.mod_lt _ (by decide)
    have h2 : 2 ^ (c % 4) ≤ 2 ^ 3 := Nat.pow_le_pow_right (by decide) (by omega)
    omega
theorem hx_lt (P : Nat → Nat → Nat) (t : Nat) : ∀ k, hx P t k < 16
  | 0 => Nat.le_of_ble_eq_true rfl
  | k + 1 => Nat.xor_lt_two_pow (n := 4) (hx_lt P t k) hbit_lt
def or4 (f : Nat → Nat) : Nat := ((f 0 ||| f 1) ||| f 2) ||| f 3
def goS (L : Nat → Nat) (P : Nat → Nat → Nat) (s : Nat → Nat) (t : Nat) : Bool := decide (s t < L t) && (!decide (P t (s t) / 4 = 2) || !(or4 fun u => if u = t then 0 else hx P u (s u)).testBit (P t (s t) % 4))
def endS (L : Nat → Nat) (P : Nat → Nat → Nat) (s : Nat → Nat) : Bool := !goS L P s 0 && !goS L P s 1 && !goS L P s 2 && !goS L P s 3
def nxS (L : Nat → Nat) (s : Nat → Nat) : Bool := decide (s 0 < L 0) || decide (s 1 < L 1) || decide (s 2 < L 2) || decide (s 3 < L 3)
def deadS (L : Nat → Nat) (P : Nat → Nat → Nat) (s : Nat → Nat) : Bool := endS L P s && nxS L s
theorem g7_pos (t : Nat) : 0 < g7 t ∧ g7 t ≤ 343 := by
  unfold g7
  repeat' split
  all_goals decide
theorem d7_lt (n t : Nat) : d7 n t < 7 := by
  unfold d7
  split
  · exact Nat.mod_lt _ (by decide)
  · decide
/-- only the row of held locks changes -/
def S32 (t i : Nat) : Bool := Nat.beq t 32 && Nat.beq i 0