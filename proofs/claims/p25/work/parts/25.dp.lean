/-! COUNTING RUNS over numbered stands, for any numbering: weights fg, digits dg. -/
def q4 (f : Nat → Nat) : Nat := f 0 + f 1 + f 2 + f 3
theorem q4_congr {f g : Nat → Nat} (h : ∀ t, t < 4 → f t = g t) : q4 f = q4 g := by
  unfold q4
  rw [h 0 (by decide), h 1 (by decide), h 2 (by decide), h 3 (by decide)]
theorem q4_le {f : Nat → Nat} {b : Nat} (h : ∀ t, t < 4 → f t ≤ b) : q4 f ≤ 4 * b := by
  unfold q4
  have := h 0 (by decide)
  have := h 1 (by decide)
  have := h 2 (by decide)
  have := h 3 (by decide)
  omega
theorem q4_ne {f : Nat → Nat} (h : q4 f ≠ 0) : ∃ t, t < 4 ∧ f t ≠ 0 := by
  unfold q4 at h
  by_cases h0 : f 0 = 0
  · by_cases h1 : f 1 = 0
    · by_cases h2 : f 2 = 0
      · exact ⟨3, by decide, by omega⟩
      · exact ⟨2, by decide, h2⟩
    · exact ⟨1, by decide, h1⟩
  · exact ⟨0, by decide, h0⟩
theorem q4_pos {f : Nat → Nat} {t : Nat} (ht : t < 4) (h : f t ≠ 0) : q4 f ≠ 0 := by
  unfold q4
  rcases (show t = 0 ∨ t = 1 ∨ t = 2 ∨ t = 3 by omega) with rfl | rfl | rfl | rfl <;> omega
/-- adding at one place of four -/
theorem q4_add {f g : Nat → Nat} {t0 b : Nat} (ht : t0 < 4) (h0 : f t0 = g t0 + b) (h : ∀ t, t < 4 → t ≠ t0 → f t = g t) : q4 f = q4 g + b := by
  unfold q4
  rcases (show t0 = 0 ∨ t0 = 1 ∨ t0 = 2 ∨ t0 = 3 by omega) with rfl | rfl | rfl | rfl
  · rw [h0, h 1 (by decide) (by decide), h 2 (by decide) (by decide), h 3 (by decide) (by decide)]; omega
  · rw [h0, h 0 (by decide) (by decide), h 2 (by decide) (by decide), h 3 (by decide) (by decide)]; omega
  · rw [h0, h 0 (by decide) (by decide), h 1 (by decide) (by decide), h 3 (by decide) (by decide)]; omega
  · rw [h0, h 0 (by decide) (by decide), h 1 (by decide) (by decide), h 2 (by decide) (by decide)]; omega
section DP
/-- the number of runs to a stand, by those one go before it; k bounds the depth -/
def zWf (fg : Nat → Nat) (go : Nat → Nat → Bool) : Nat → Nat → Nat
  | 0, _ => 0
  | k + 1, i => (if i = 0 then 1 else 0) + q4 fun t => if 0 < fg t ∧ fg t ≤ i ∧ go (i - fg t) t = true then zWf fg go k (i - fg t) else 0
def zW (fg : Nat → Nat) (go : Nat → Nat → Bool) (i : Nat) : Nat := zWf fg go (i + 1) i
theorem zWf_eq (fg : Nat → Nat) (go : Nat → Nat → Bool) : ∀ (k i : Nat), i < k → zWf fg go k i = zW fg go i := by
  intro k
  induction k using Nat.strongRecOn with
  | ind k ih =>
    intro i hi
    cases k with
    | zero => omega
    | succ k =>
      unfold zW zWf
      congr 1
      refine q4_congr fun t ht => ?_
      by_cases h : 0 < fg t ∧ fg t ≤ i ∧ go (i - fg t) t = true
      · rw [if_pos h, if_pos h, ih k (by omega) (i - fg t) (by omega)]
        by_cases hk : i < k
        · rw [ih i (by omega) (i - fg t) (by omega)]
        · have : i = k := by omega
          subst this
          rw [ih i (by omega) (i - fg t) (by omega)]
      · rw [if_neg h, if_neg h]
theorem zW_eq (fg : Nat → Nat) (go : Nat → Nat → Bool) (i : Nat) : zW fg go i = (if i = 0 then 1 else 0) + q4 fun t => if 0 < fg t ∧ fg t ≤ i ∧ go (i - fg t) t = true then zW fg go (i - fg t) else 0 := by
  show zWf fg go (i + 1) i = _
  unfold zWf
  congr 1
  refine q4_congr fun t ht => ?_
  by_cases h : 0 < fg t ∧ fg t ≤ i ∧ go (i - fg t) t = true
  · rw [if_pos h, if_pos h, zWf_eq fg go i (i - fg t) (by omega)]
  · rw [if_neg h, if_neg h]
/-- what has come to a stand when all goes before (i0, t0) are done -/
def zWp (fg : Nat → Nat) (go : Nat → Nat → Bool) (i0 t0 x : Nat) : Nat :=
  (if x = 0 then 1 else 0) + q4 fun t => if 0 < fg t ∧ fg t ≤ x ∧ go (x - fg t) t = true ∧ (x - fg t < i0 ∨ x - fg t = i0 ∧ t < t0) then zW fg go (x - fg t) else 0
variable {fg : Nat → Nat} {go : Nat → Nat → Bool}
theorem zWp_0 (x : Nat) : zWp fg go 0 0 x = if x = 0 then 1 else 0 := by
  unfold zWp
  have : (q4 fun t => if 0 < fg t ∧ fg t ≤ x ∧ go (x - fg t) t = true ∧ (x - fg t < 0 ∨ x - fg t = 0 ∧ t < 0) then zW fg go (x - fg t) else 0) = q4 fun _ => 0 := q4_congr fun t ht => if_neg (by omega)
  rw [this]
  rfl
theorem zWp_4 (i x : Nat) : zWp fg go i 4 x = zWp fg go (i + 1) 0 x := by
  unfold zWp
  congr 1
  refine q4_congr fun t ht => ?_
  by_cases h : 0 < fg t ∧ fg t ≤ x ∧ go (x - fg t) t = true ∧ (x - fg t < i ∨ x - fg t = i ∧ t < 4)
  · rw [if_pos h, if_pos ⟨h.1, h.2.1, h.2.2.1, by omega⟩]
  · rw [if_neg h, if_neg (fun z => h ⟨z.1, z.2.1, z.2.2.1, by omega⟩)]
theorem zWp_self (i t0 : Nat) : zWp fg go i t0 i = zW fg go i := by
  rw [zW_eq]
  unfold zWp
  congr 1
  refine q4_congr fun t ht => ?_
  by_cases h : 0 < fg t ∧ fg t ≤ i ∧ go (i - fg t) t = true
  · rw [if_pos h, if_pos ⟨h.1, h.2.1, h.2.2, by omega⟩]
  · rw [if_neg h, if_neg (fun z => h ⟨z.1, z.2.1, z.2.2.1⟩)]
theorem zWp_st {i t0 : Nat} (ht : t0 < 4) (hf : 0 < fg t0) (x : Nat) : zWp fg go i (t0 + 1) x = zWp fg go i t0 x + if x = i + fg t0 ∧ go i t0 = true then zW fg go i else 0 := by
  unfold zWp
  rw [Nat.add_assoc]
  congr 1
  refine q4_add ht ?_ fun t h4 hne => ?_
  · by_cases hx : x = i + fg t0
    · have e : x - fg t0 = i := by omega
      rw [e]
      by_cases hg : go i t0 = true
      · rw [if_pos ⟨hf, by omega, hg, by omega⟩, if_neg (by omega), if_pos ⟨hx, hg⟩, Nat.zero_add]
      · rw [if_neg (fun z => hg z.2.2.1), if_neg (fun z => hg z.2.2.1), if_neg (fun z => hg z.2)]
    · rw [if_neg (c := x = i + fg t0 ∧ go i t0 = true) (fun z => hx z.1)]
      refine Eq.trans ?_ (Nat.add_zero _).symm
      by_cases h : 0 < fg t0 ∧ fg t0 ≤ x ∧ go (x - fg t0) t0 = true ∧ (x - fg t0 < i ∨ x - fg t0 = i ∧ t0 < t0)
      · rw [if_pos h, if_pos ⟨h.1, h.2.1, h.2.2.1, by omega⟩]
      · rw [if_neg h, if_neg (fun z => h ⟨z.1, z.2.1, z.2.2.1, by omega⟩)]
  · by_cases h : 0 < fg t ∧ fg t ≤ x ∧ go (x - fg t) t = true ∧ (x - fg t < i ∨ x - fg t = i ∧ t < t0)
    · rw [if_pos h, if_pos ⟨h.1, h.2.1, h.2.2.1, by omega⟩]
    · rw [if_neg h, if_neg (fun z => h ⟨z.1, z.2.1, z.2.2.1, by omega⟩)]
theorem zWp_skip {i : Nat} (h0 : zW fg go i = 0) (x : Nat) : zWp fg go (i + 1) 0 x = zWp fg go i 0 x := by
  unfold zWp
  congr 1
  refine q4_congr fun t ht => ?_
  by_cases h : 0 < fg t ∧ fg t ≤ x ∧ go (x - fg t) t = true ∧ (x - fg t < i + 1 ∨ x - fg t = i + 1 ∧ t < 0)
  · rw [if_pos h]
    by_cases he : x - fg t = i
    · rw [he, h0]
      split <;> rfl
    · rw [if_pos ⟨h.1, h.2.1, h.2.2.1, by omega⟩]
  · rw [if_neg h, if_neg (fun z => h ⟨z.1, z.2.1, z.2.2.1, by omega⟩)]
theorem zWp_end {N x : Nat} (hx : x < N) : zWp fg go N 0 x = zW fg go x := by
  rw [zW_eq]
  unfold zWp
  congr 1
  refine q4_congr fun t ht => ?_
  by_cases h : 0 < fg t ∧ fg t ≤ x ∧ go (x - fg t) t = true
  · rw [if_pos h, if_pos ⟨h.1, h.2.1, h.2.2, by omega⟩]
  · rw [if_neg h, if_neg (fun z => h ⟨z.1, z.2.1, z.2.2.1⟩)]
theorem zW_pred {i : Nat} (h : zW fg go i ≠ 0) : i = 0 ∨ ∃ t, t < 4 ∧ 0 < fg t ∧ fg t ≤ i ∧ go (i - fg t) t = true ∧ zW fg go (i - fg t) ≠ 0 := by
  by_cases h0 : i = 0
  · exact Or.inl h0
  · right
    rw [zW_eq, if_neg h0, Nat.zero_add] at h
    obtain ⟨t, ht, hne⟩ := q4_ne h
    by_cases hc : 0 < fg t ∧ fg t ≤ i ∧ go (i - fg t) t = true
    · rw [if_pos hc] at hne
      exact ⟨t, ht, hc.1, hc.2.1, hc.2.2, hne⟩
    · rw [if_neg hc] at hne
      exact absurd rfl hne
theorem zW_0 : zW fg go 0 = 1 := by
  rw [zW_eq, if_pos rfl]
  have : (q4 fun t => if 0 < fg t ∧ fg t ≤ 0 ∧ go (0 - fg t) t = true then zW fg go (0 - fg t) else 0) = q4 fun _ => 0 := q4_congr fun t ht => if_neg (by omega)
  rw [this]
  rfl
theorem zW_succ {i t : Nat} (ht : t < 4) (hf : 0 < fg t) (hg : go i t = true) (h : zW fg go i ≠ 0) : zW fg go (i + fg t) ≠ 0 := by
  rw [zW_eq]
  have : q4 (fun u => if 0 < fg u ∧ fg u ≤ i + fg t ∧ go (i + fg t - fg u) u = true then zW fg go (i + fg t - fg u) else 0) ≠ 0 := by
    refine q4_pos ht ?_
    have e : i + fg t - fg t = i := by omega
    rw [e, if_pos ⟨hf, by omega, hg⟩]
    exact h
  omega
/-- a numbering: digits below six can be counted up -/
def DS (N : Nat) (fg : Nat → Nat) (dg : Nat → Nat → Nat) : Prop := 0 < N ∧ (∀ u, u < 4 → dg 0 u = 0) ∧ (∀ t, t < 4 → 0 < fg t) ∧ ∀ i t, i < N → t < 4 → dg i t < 6 → i + fg t < N ∧ ∀ u, u < 4 → dg (i + fg t) u = dg i u + if u = t then 1 else 0
variable {N : Nat} {dg : Nat → Nat → Nat} {L : Nat → Nat} {P : Nat → Nat → Nat}
theorem goS_lt {s : Nat → Nat} {t : Nat} (h : goS L P s t = true) : s t < L t := by
  unfold goS at h
  rw [Bool.and_eq_true] at h
  exact of_decide_eq_true h.1
theorem ds_reach (hD : DS N fg dg) (hW : WP L P) : ∀ i, i < N → zW fg (fun i t => goS L P (dg i) t) i ≠ 0 → ∀ u, u < 4 → dg i u ≤ L u := by
  intro i
  induction i using Nat.strongRecOn with
  | ind i ih =>
    intro hi h u hu
    rcases zW_pred h with rfl | ⟨t, ht, hf, hle, hg, hne⟩
    · rw [hD.2.1 u hu]; exact Nat.zero_le _
    · have hlt := goS_lt hg
      have hL := (hW t ht).1
      have h1 := ih (i - fg t) (by omega) (by omega) hne u hu
      have h2 := (hD.2.2.2 (i - fg t) t (by omega) ht (by omega)).2 u hu
      rw [show i - fg t + fg t = i by omega] at h2
      rw [h2]
      split
      · rename_i e
        subst e
        omega
      · omega
theorem ds_len (hD : DS N fg dg) {i t : Nat} (hi : i < N) (ht : t < 4) (h6 : dg i t < 6) : len4 (dg (i + fg t)) = len4 (dg i) + 1 := by
  have h2 := (hD.2.2.2 i t hi ht h6).2
  unfold len4
  rw [h2 0 (by decide), h2 1 (by decide), h2 2 (by decide), h2 3 (by decide)]
  rcases (show t = 0 ∨ t = 1 ∨ t = 2 ∨ t = 3 by omega) with rfl | rfl | rfl | rfl <;> simp <;> omega
theorem ds_bound (hD : DS N fg dg) (hW : WP L P) : ∀ i, i < N → zW fg (fun i t => goS L P (dg i) t) i ≤ 4 ^ len4 (dg i) := by
  intro i
  induction i using Nat.strongRecOn with
  | ind i ih =>
    intro hi
    by_cases h0 : i = 0
    · rw [h0, zW_0]
      exact Nat.pow_pos (by decide)
    · by_cases hz : zW fg (fun i t => goS L P (dg i) t) i = 0
      · rw [hz]; exact Nat.zero_le _
      · obtain ⟨t, ht, hf, hle, hg, hne⟩ := (zW_pred hz).resolve_left h0
        have hl := ds_len hD (i := i - fg t) (t := t) (by omega) ht (by have := goS_lt hg; have := (hW t ht).1; omega)
        rw [show i - fg t + fg t = i by omega] at hl
        rw [zW_eq, if_neg h0, Nat.zero_add, hl, Nat.pow_succ, Nat.mul_comm]
        refine q4_le fun u hu => ?_
        by_cases hc : 0 < fg u ∧ fg u ≤ i ∧ goS L P (dg (i - fg u)) u = true
        · rw [if_pos hc]
          have hlu := ds_len hD (i := i - fg u) (t := u) (by omega) hu (by have := goS_lt hc.2.2; have := (hW u hu).1; omega)
          rw [show i - fg u + fg u = i by omega] at hlu
          rw [show len4 (dg (i - fg t)) = len4 (dg (i - fg u)) by omega]
          exact ih (i - fg u) (by omega) (by omega)
        · rw [if_neg hc]; exact Nat.zero_le _
theorem ds_small (hD : DS N fg dg) (hW : WP L P) {i : Nat} (hi : i < N) : zW fg (fun i t => goS L P (dg i) t) i < 281474976710657 := by
  by_cases hz : zW fg (fun i t => goS L P (dg i) t) i = 0
  · rw [hz]; decide
  · have hr := ds_reach hD hW i hi hz
    have hb := ds_bound hD hW i hi
    have h0 := hr 0 (by decide)
    have h1 := hr 1 (by decide)
    have h2 := hr 2 (by decide)
    have h3 := hr 3 (by decide)
    have := (hW 0 (by decide)).1
    have := (hW 1 (by decide)).1
    have := (hW 2 (by decide)).1
    have := (hW 3 (by decide)).1
    have hl : len4 (dg i) ≤ 24 := by unfold len4; omega
    have : 4 ^ len4 (dg i) ≤ 4 ^ 24 := Nat.pow_le_pow_right (by decide) hl
    omega
end DP
