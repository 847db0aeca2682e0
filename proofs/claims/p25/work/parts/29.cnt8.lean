/-! THE CLASS COUNTS. -/
theorem v_isEnd8 {w : Wd} {L : Nat → Nat} {P : Nat → Nat → Nat} (hW : WP L P) (hX : SPX w L P) {c : Nat} (hc : c < 4096) : f_X5_isEnd 0 (nI c) w = some (nI (if (!decide (W8 L P c = 0) && endS L P (d8 c)) = true then 1 else 0), w) := by
  have hs : W8 L P c < 281474976710657 := ds_small ds8 (P := P) hW hc
  have hre := v_isReachable hc (hX.2.2.1 c hc) (by omega)
  have hg := hX.2.2.2.1 c hc
  have hm := msk_lt (goS L P (d8 c))
  rw [e_X5_isEnd, hre]
  by_cases hz : W8 L P c = 0
  · simp (disch := omega) only [joc, jl, hz, decide_true, Bool.not_true, Bool.false_and, jeq0, ↓reduceIte, jzb0, Bool.false_eq_true]
  · unfold gG at hg
    rw [if_neg hz] at hg
    simp (disch := omega) only [joc, jl, hz, decide_false, Bool.not_false, Bool.true_and, jeq0, Nat.reduceEqDiff, ↓reduceIte, jzb0, jzb1, jchk, jcl, hg, msk_end]
    cases endS L P (d8 c) <;> rfl
theorem v_isDead8 {w : Wd} {L : Nat → Nat} {P : Nat → Nat → Nat} (hW : WP L P) (hX : SPX w L P) {c : Nat} (hc : c < 4096) : f_X5_isDeadlock 0 (nI c) w = some (nI (if (!decide (W8 L P c = 0) && deadS L P (d8 c)) = true then 1 else 0), w) := by
  have hm := msk_lt fun t => decide (d8 c t < L t)
  rw [e_X5_isDeadlock, v_isEnd8 hW hX hc, joc]
  unfold deadS
  cases hz : (!decide (W8 L P c = 0) && endS L P (d8 c)) with
  | false =>
    simp (disch := omega) only [jl, jeq0, ↓reduceIte, jzb0, Bool.false_eq_true]
    rw [← Bool.and_assoc, hz]
    rfl
  | true =>
    simp (disch := omega) only [jl, jeq0, Nat.reduceEqDiff, ↓reduceIte, jzb0, jzb1, v_unfinished hX.1 hW hc, joc, msk_nx]
    rw [← Bool.and_assoc, hz]
    cases nxS L (d8 c) <;> rfl
section C8
variable {w : Wd} {L : Nat → Nat} {P : Nat → Nat → Nat}
theorem v_reachable_lp (hW : WP L P) (hX : SPX w L P) : ∀ (n c : Nat), n + c = 4096 →
    x_X5_reachableStands 4 [] [some (zr 5 0), some (zi (nI (zsm (fun c => if (!decide (W8 L P c = 0)) = true then 1 else 0) c))), some (zi (nI c))] w = some (nI (zsm (fun c => if (!decide (W8 L P c = 0)) = true then 1 else 0) 4096), w) := by
  intro n
  induction n with
  | zero =>
    intro c hc
    rw [e_X5_reachableStands_4]
    simp (disch := omega) only [jl, jle]
    rw [if_pos (by omega), show c = 4096 by omega]
  | succ n ih =>
    intro c hc
    have hc' : c < 4096 := by omega
    have hs : W8 L P c < 281474976710657 := ds_small ds8 (P := P) hW hc'
    rw [← ih (c + 1) (by omega), e_X5_reachableStands_4, v_isReachable hc' (hX.2.2.1 c hc') (by omega)]
    simp (disch := omega) only [jl, jle, joc, j01, nI_add, zsm]
    rw [if_neg (by omega)]
    cases (!decide (W8 L P c = 0)) <;> rfl
theorem v_reachable (hW : WP L P) (hX : SPX w L P) : f_X5_reachableStands 0 w = some (nI (zsm (fun c => if (!decide (W8 L P c = 0)) = true then 1 else 0) 4096), w) := by
  rw [e_X5_reachableStands]
  exact v_reachable_lp hW hX 4096 0 rfl
theorem v_ends_lp (hW : WP L P) (hX : SPX w L P) : ∀ (n c : Nat), n + c = 4096 →
    x_X5_ends 4 [] [some (zr 5 0), some (zi (nI (zsm (fun c => if (!decide (W8 L P c = 0) && endS L P (d8 c)) = true then 1 else 0) c))), some (zi (nI c))] w = some (nI (zsm (fun c => if (!decide (W8 L P c = 0) && endS L P (d8 c)) = true then 1 else 0) 4096), w) := by
  intro n
  induction n with
  | zero =>
    intro c hc
    rw [e_X5_ends_4]
    simp (disch := omega) only [jl, jle]
    rw [if_pos (by omega), show c = 4096 by omega]
  | succ n ih =>
    intro c hc
    have hc' : c < 4096 := by omega
    rw [← ih (c + 1) (by omega), e_X5_ends_4, v_isEnd8 hW hX hc']
    simp (disch := omega) only [jl, jle, joc, j01, nI_add, zsm]
    rw [if_neg (by omega)]
    cases (!decide (W8 L P c = 0) && endS L P (d8 c)) <;> rfl
theorem v_ends (hW : WP L P) (hX : SPX w L P) : f_X5_ends 0 w = some (nI (zsm (fun c => if (!decide (W8 L P c = 0) && endS L P (d8 c)) = true then 1 else 0) 4096), w) := by
  rw [e_X5_ends]
  exact v_ends_lp hW hX 4096 0 rfl
def dB8 (L : Nat → Nat) (P : Nat → Nat → Nat) (c : Nat) : Bool := !decide (W8 L P c = 0) && deadS L P (d8 c)
def nd8 (L : Nat → Nat) (P : Nat → Nat → Nat) (c : Nat) : Nat := if dB8 L P c = true then 1 else 0
theorem v_deadlocks_lp (hW : WP L P) (hX : SPX w L P) : ∀ (n c : Nat), n + c = 4096 →
    x_X5_deadlocks 4 [] [some (zr 5 0), some (zi (nI (zsm (nd8 L P) c))), some (zi (nI c))] w = some (nI (zsm (nd8 L P) 4096), w) := by
  intro n
  induction n with
  | zero =>
    intro c hc
    rw [e_X5_deadlocks_4]
    simp (disch := omega) only [jl, jle]
    rw [if_pos (by omega), show c = 4096 by omega]
  | succ n ih =>
    intro c hc
    have hc' : c < 4096 := by omega
    have hd : f_X5_isDeadlock 0 (nI c) w = some (nI (if dB8 L P c = true then 1 else 0), w) := v_isDead8 hW hX hc'
    rw [← ih (c + 1) (by omega), e_X5_deadlocks_4, hd]
    simp (disch := omega) only [jl, jle, joc, j01, nI_add, zsm]
    rw [if_neg (by omega)]
    unfold nd8
    cases dB8 L P c <;> rfl
theorem v_deadlocks (hW : WP L P) (hX : SPX w L P) : f_X5_deadlocks 0 w = some (nI (zsm (nd8 L P) 4096), w) := by
  rw [e_X5_deadlocks]
  exact v_deadlocks_lp hW hX 4096 0 rfl
theorem nd8_le (c : Nat) : zsm (nd8 L P) c ≤ c := by
  have := zsm_le (f := nd8 L P) (b := 1) (n := c) fun i _ => by unfold nd8; split <;> decide
  omega
theorem v_deadlockAt_lp (hW : WP L P) (hX : SPX w L P) {i : Nat} (hi : i < 2147483648) : ∀ (n c : Nat), n + c = 4096 → zsm (nd8 L P) c ≤ i →
    (∃ c', c ≤ c' ∧ c' < 4096 ∧ dB8 L P c' = true ∧ zsm (nd8 L P) c' = i ∧ x_X5_deadlockAt 4 [] [some (zr 5 0), some (zi (nI i)), some (zi (nI (zsm (nd8 L P) c))), some (zi (nI c))] w = some (nI c', w)) ∨
    (zsm (nd8 L P) 4096 ≤ i ∧ x_X5_deadlockAt 4 [] [some (zr 5 0), some (zi (nI i)), some (zi (nI (zsm (nd8 L P) c))), some (zi (nI c))] w = some (Int32.ofInt (-1), w)) := by
  intro n
  induction n with
  | zero =>
    intro c hc hle
    right
    rw [show c = 4096 by omega] at hle ⊢
    refine ⟨hle, ?_⟩
    rw [e_X5_deadlockAt_4]
    simp (disch := omega) only [jl, jle]
    rw [if_pos (by omega)]
  | succ n ih =>
    intro c hc hle
    have hc' : c < 4096 := by omega
    have hd : f_X5_isDeadlock 0 (nI c) w = some (nI (if dB8 L P c = true then 1 else 0), w) := v_isDead8 hW hX hc'
    have hl := nd8_le (L := L) (P := P) c
    have hz : zsm (nd8 L P) (c + 1) = zsm (nd8 L P) c + nd8 L P c := rfl
    rw [e_X5_deadlockAt_4, hd]
    simp (disch := omega) only [jl, jle, joc, j01, nI_add, jeq]
    rw [if_neg (by omega)]
    cases hb : dB8 L P c with
    | false =>
      rw [if_pos rfl]
      have e : nd8 L P c = 0 := by unfold nd8; rw [hb]; rfl
      have hz : zsm (nd8 L P) (c + 1) = zsm (nd8 L P) c := by omega
      rcases ih (c + 1) (by omega) (by omega) with ⟨c', h1, h2, h3, h4, h5⟩ | ⟨h1, h2⟩
      · exact Or.inl ⟨c', by omega, h2, h3, h4, by rw [← hz]; exact h5⟩
      · exact Or.inr ⟨h1, by rw [← hz]; exact h2⟩
    | true =>
      rw [if_neg (by decide)]
      have e : nd8 L P c = 1 := by unfold nd8; rw [hb]; rfl
      rw [e] at hz
      by_cases hf : zsm (nd8 L P) c = i
      · rw [if_pos hf]
        exact Or.inl ⟨c, Nat.le_refl _, hc', hb, hf, rfl⟩
      · rw [if_neg hf]
        rcases ih (c + 1) (by omega) (by omega) with ⟨c', h1, h2, h3, h4, h5⟩ | ⟨h1, h2⟩
        · exact Or.inl ⟨c', by omega, h2, h3, h4, by rw [← hz]; exact h5⟩
        · exact Or.inr ⟨h1, by rw [← hz]; exact h2⟩
theorem v_deadlockAt (hW : WP L P) (hX : SPX w L P) {i : Nat} (hi : i < 2147483648) :
    (∃ c, c < 4096 ∧ dB8 L P c = true ∧ zsm (nd8 L P) c = i ∧ f_X5_deadlockAt 0 (nI i) w = some (nI c, w)) ∨ (zsm (nd8 L P) 4096 ≤ i ∧ f_X5_deadlockAt 0 (nI i) w = some (Int32.ofInt (-1), w)) := by
  rw [e_X5_deadlockAt]
  rcases v_deadlockAt_lp hW hX hi 4096 0 rfl (Nat.zero_le _) with ⟨c', h1, h2, h3, h4, h5⟩ | ⟨h1, h2⟩
  · exact Or.inl ⟨c', h2, h3, h4, h5⟩
  · exact Or.inr ⟨h1, h2⟩
theorem v_deadlockAt_neg_lp (hW : WP L P) (hX : SPX w L P) {x : Int32} (hx : x < 0) : ∀ (n c : Nat), n + c = 4096 →
    x_X5_deadlockAt 4 [] [some (zr 5 0), some (zi x), some (zi (nI (zsm (nd8 L P) c))), some (zi (nI c))] w = some (Int32.ofInt (-1), w) := by
  intro n
  induction n with
  | zero =>
    intro c hc
    rw [e_X5_deadlockAt_4]
    simp (disch := omega) only [jl, jle]
    rw [if_pos (by omega)]
  | succ n ih =>
    intro c hc
    have hc' : c < 4096 := by omega
    have hd : f_X5_isDeadlock 0 (nI c) w = some (nI (if dB8 L P c = true then 1 else 0), w) := v_isDead8 hW hX hc'
    have hl := nd8_le (L := L) (P := P) c
    have hne : ¬ nI (zsm (nd8 L P) c) = x := fun e => by
      rw [← e] at hx
      exact nI_pos (show zsm (nd8 L P) c < 2 ^ 31 by omega) hx
    rw [← ih (c + 1) (by omega), e_X5_deadlockAt_4, hd]
    simp (disch := omega) only [jl, jle, joc, j01, nI_add, zsm]
    rw [if_neg (by omega), if_neg hne]
    unfold nd8
    cases dB8 L P c <;> rfl
theorem v_deadlockAt_neg (hW : WP L P) (hX : SPX w L P) {x : Int32} (hx : x < 0) : f_X5_deadlockAt 0 x w = some (Int32.ofInt (-1), w) := by
  rw [e_X5_deadlockAt]
  exact v_deadlockAt_neg_lp hW hX hx 4096 0 rfl
theorem v_wholeRuns_lp (hW : WP L P) (hX : SPX w L P) : ∀ (n c : Nat), n + c = 4096 →
    x_X5_wholeRuns 4 [] [some (zr 5 0), some (zl (lN (zsm (fun c => if (!decide (W8 L P c = 0) && endS L P (d8 c)) = true then W8 L P c else 0) c))), none, some (zi (nI c))] w = some (lN (zsm (fun c => if (!decide (W8 L P c = 0) && endS L P (d8 c)) = true then W8 L P c else 0) 4096), w) := by
  intro n
  induction n with
  | zero =>
    intro c hc
    rw [e_X5_wholeRuns_4]
    simp (disch := omega) only [jl, jle]
    rw [if_pos (by omega), show c = 4096 by omega]
  | succ n ih =>
    intro c hc
    have hc' : c < 4096 := by omega
    rw [← ih (c + 1) (by omega), e_X5_wholeRuns_4, v_isEnd8 hW hX hc']
    simp (disch := omega) only [jl, jle, joc, j01, nI_add, zsm, jchk, jcl, hX.2.2.1 c hc', lN_add]
    rw [if_neg (by omega)]
    cases (!decide (W8 L P c = 0) && endS L P (d8 c)) <;> rfl
theorem v_wholeRuns (hW : WP L P) (hX : SPX w L P) : f_X5_wholeRuns 0 w = some (lN (zsm (fun c => if (!decide (W8 L P c = 0) && endS L P (d8 c)) = true then W8 L P c else 0) 4096), w) := by
  rw [e_X5_wholeRuns]
  exact v_wholeRuns_lp hW hX 4096 0 rfl
theorem v_wholeRunsD_lp (hW : WP L P) (hX : SPX w L P) : ∀ (n c : Nat), n + c = 4096 →
    x_X5_wholeRunsToDeadlocks 4 [] [some (zr 5 0), some (zl (lN (zsm (fun c => if dB8 L P c = true then W8 L P c else 0) c))), none, some (zi (nI c))] w = some (lN (zsm (fun c => if dB8 L P c = true then W8 L P c else 0) 4096), w) := by
  intro n
  induction n with
  | zero =>
    intro c hc
    rw [e_X5_wholeRunsToDeadlocks_4]
    simp (disch := omega) only [jl, jle]
    rw [if_pos (by omega), show c = 4096 by omega]
  | succ n ih =>
    intro c hc
    have hc' : c < 4096 := by omega
    have hd : f_X5_isDeadlock 0 (nI c) w = some (nI (if dB8 L P c = true then 1 else 0), w) := v_isDead8 hW hX hc'
    rw [← ih (c + 1) (by omega), e_X5_wholeRunsToDeadlocks_4, hd]
    simp (disch := omega) only [jl, jle, joc, j01, nI_add, zsm, jchk, jcl, hX.2.2.1 c hc', lN_add]
    rw [if_neg (by omega)]
    cases dB8 L P c <;> rfl
theorem v_wholeRunsD (hW : WP L P) (hX : SPX w L P) : f_X5_wholeRunsToDeadlocks 0 w = some (lN (zsm (fun c => if dB8 L P c = true then W8 L P c else 0) 4096), w) := by
  rw [e_X5_wholeRunsToDeadlocks]
  exact v_wholeRunsD_lp hW hX 4096 0 rfl
end C8
