/-! EACH QUESTION: what it answers. -/
section KS
def OK {α : Type} (f : Wd → Option (α × Wd)) (g : Gst) (v : α) (g' : Gst) : Prop := ∀ w, CI w g → ∃ w', f w = some (v, w') ∧ Fr SCl w w' ∧ CI w' g'
theorem OK_look {α : Type} {f : Wd → Option (α × Wd)} {g : Gst} {v : α} (hG : GI g) (h : ∀ w w1, f_X5_lookAt 0 0 w = some w1 → SPX w1 g.2.1.1 g.2.1.2.1 → f w = some (v, w1)) : OK f g v g := fun w hC => by
  obtain ⟨w1, a1, a2, a3, a4, -⟩ := look hG hC
  exact ⟨w1, h w w1 a1 a4, a2.sub sub_SQ, a3⟩
theorem OK_same {α : Type} {f : Wd → Option (α × Wd)} {g : Gst} {v : α} (h : ∀ w, CI w g → f w = some (v, w)) : OK f g v g := fun w hC => ⟨w, h w hC, Fr.rf, hC⟩
variable {g : Gst}
theorem k_stands0 (hG : GI g) : OK (f_X7_stands 0 (nI 0)) g (nI (nr8 g.2.1.1 g.2.1.2.1)) g := OK_look hG fun w w1 h1 h2 => by
  rw [e_X7_stands, h1, joc, if_pos (by rfl), v_reachable hG.2.1.1 h2, joc]
  rfl
theorem k_stands1 (hG : GI g) : OK (f_X7_stands 0 (nI 1)) g (nI (ne8 g.2.1.1 g.2.1.2.1)) g := OK_look hG fun w w1 h1 h2 => by
  rw [e_X7_stands, h1, joc, if_neg (by decide), if_pos (by rfl), v_ends hG.2.1.1 h2, joc]
  rfl
theorem k_stands2 (hG : GI g) : OK (f_X7_stands 0 (nI 2)) g (nI (ndl g.2.1.1 g.2.1.2.1)) g := OK_look hG fun w w1 h1 h2 => by
  rw [e_X7_stands, h1, joc, if_neg (by decide), if_neg (by decide), if_pos (by rfl), v_deadlocks hG.2.1.1 h2, joc]
  rfl
theorem k_stands3 (hG : GI g) : OK (f_X7_stands 0 (nI 3)) g (Int32.ofInt (-2)) g := OK_look hG fun w w1 h1 h2 => by
  rw [e_X7_stands, h1, joc, if_neg (by decide), if_neg (by decide), if_neg (by decide)]
theorem k_runs0 (hG : GI g) : OK (f_X7_runs 0 (nI 0)) g (lN (wh8 g.2.1.1 g.2.1.2.1)) g := OK_look hG fun w w1 h1 h2 => by
  rw [e_X7_runs, h1, joc, if_pos (by rfl), v_wholeRuns hG.2.1.1 h2, joc]
  rfl
theorem k_runs1 (hG : GI g) : OK (f_X7_runs 0 (nI 1)) g (lN (wd8 g.2.1.1 g.2.1.2.1)) g := OK_look hG fun w w1 h1 h2 => by
  rw [e_X7_runs, h1, joc, if_neg (by decide), if_pos (by rfl), v_wholeRunsD hG.2.1.1 h2, joc]
  rfl
theorem k_runs2 (hG : GI g) : OK (f_X7_runs 0 (nI 2)) g (-2) g := OK_look hG fun w w1 h1 h2 => by
  rw [e_X7_runs, h1, joc, if_neg (by decide), if_neg (by decide)]
/-! deadlocks -/
theorem nd_ex {L : Nat → Nat} {P : Nat → Nat → Nat} {i : Nat} : ∀ N, i < zsm (nd8 L P) N → ∃ c, c < N ∧ dB8 L P c = true ∧ zsm (nd8 L P) c = i
  | 0, h => absurd h (Nat.not_lt_zero _)
  | N + 1, h => by
    by_cases hlt : i < zsm (nd8 L P) N
    · obtain ⟨c, h1, h2, h3⟩ := nd_ex N hlt
      exact ⟨c, by omega, h2, h3⟩
    · rw [zsm] at h
      unfold nd8 at h
      by_cases hb : dB8 L P N = true
      · rw [if_pos hb] at h
        refine ⟨N, by omega, hb, ?_⟩
        unfold nd8 at hlt ⊢
        omega
      · rw [if_neg hb] at h
        unfold nd8 at hlt
        omega
def tD (L : Nat → Nat) (P : Nat → Nat → Nat) (q c : Nat) : Nat := if q < 4 then d8 c q else if q = 4 then msk fun t => decide (d8 c t < L t) else if q = 5 then len4 (d8 c) else or4 fun u => hx P u (d8 c u)
theorem k_dl (hG : GI g) {i c : Nat} (hc : c < 4096) (hb : dB8 g.2.1.1 g.2.1.2.1 c = true) (hi : zsm (nd8 g.2.1.1 g.2.1.2.1) c = i) {q : Nat} (hq : q < 7) : OK (f_X7_deadlock 0 (nI i) (nI q)) g (nI (tD g.2.1.1 g.2.1.2.1 q c)) g := OK_look hG fun w w1 h1 h2 => by
  have hW := hG.2.1.1
  have hle := nd8_le (L := g.2.1.1) (P := g.2.1.2.1) c
  have hd : f_X5_deadlockAt 0 (nI i) w1 = some (nI c, w1) := by
    rcases v_deadlockAt hW h2 (i := i) (by omega) with ⟨c', k1, k2, k3, k4⟩ | ⟨k1, -⟩
    · have e : c' = c := nd_uniq (f := nd8 g.2.1.1 g.2.1.2.1) (by unfold nd8; rw [k2]; rfl) (by unfold nd8; rw [hb]; rfl) k3 hi
      rw [k4, e]
    · exfalso
      have h3 := zsm_pre (f := nd8 g.2.1.1 g.2.1.2.1) (show c + 1 ≤ 4096 from hc)
      rw [zsm, hi] at h3
      have h4 : nd8 g.2.1.1 g.2.1.2.1 c = 1 := by unfold nd8; rw [hb]; rfl
      omega
  have hr := ds_reach ds8 hW c hc (dB8_W hb)
  rw [e_X7_deadlock, h1, joc, hd, joc, v_isThread (by omega), joc]
  simp (disch := omega) only [jm1, ↓reduceIte, jl]
  unfold tD
  by_cases h4 : q < 4
  · simp (disch := omega) only [if_pos h4, jeq0, Nat.reduceEqDiff, ↓reduceIte, v_doneBy, joc]
  · simp (disch := omega) only [if_neg h4, jeq0, ↓reduceIte, jeq]
    by_cases h4 : q = 4
    · rw [if_pos h4, if_pos h4, v_unfinished h2.1 hW hc, joc]
    · rw [if_neg h4, if_neg h4]
      by_cases h5 : q = 5
      · rw [if_pos h5, if_pos h5, v_stepsDone hc, joc]
      · rw [if_neg h5, if_neg h5, if_pos (by omega), v_heldLocks h2.2.1 hc, joc]
        have key : ∀ u, u < 4 → hx g.2.1.2.1 u (min (d8 c u) (g.2.1.1 u)) = hx g.2.1.2.1 u (d8 c u) := fun u hu => by
          rw [show min (d8 c u) (g.2.1.1 u) = d8 c u from Nat.min_eq_left (hr u hu)]
        simp only [or4, key 0 (by decide), key 1 (by decide), key 2 (by decide), key 3 (by decide)]
theorem k_dl_no (hG : GI g) (y : Int32) : OK (f_X7_deadlock 0 (nI (ndl g.2.1.1 g.2.1.2.1)) y) g (Int32.ofInt (-1)) g := OK_look hG fun w w1 h1 h2 => by
  have hW := hG.2.1.1
  have hle := nd8_le (L := g.2.1.1) (P := g.2.1.2.1) 4096
  have hd : f_X5_deadlockAt 0 (nI (ndl g.2.1.1 g.2.1.2.1)) w1 = some (Int32.ofInt (-1), w1) := by
    rcases v_deadlockAt hW h2 (i := ndl g.2.1.1 g.2.1.2.1) (by unfold ndl; omega) with ⟨c', k1, k2, k3, k4⟩ | ⟨-, k1⟩
    · exfalso
      have h3 := zsm_pre (f := nd8 g.2.1.1 g.2.1.2.1) (show c' + 1 ≤ 4096 from k1)
      rw [zsm, k3] at h3
      have h4 : nd8 g.2.1.1 g.2.1.2.1 c' = 1 := by unfold nd8; rw [k2]; rfl
      unfold ndl at h3
      omega
    · exact k1
  rw [e_X7_deadlock, h1, joc, hd, joc, if_pos rfl]
theorem k_dl_neg (hG : GI g) (y : Int32) : OK (f_X7_deadlock 0 (Int32.ofInt (-1)) y) g (Int32.ofInt (-1)) g := OK_look hG fun w w1 h1 h2 => by
  rw [e_X7_deadlock, h1, joc, v_deadlockAt_neg hG.2.1.1 h2 (by decide), joc, if_pos rfl]
/-! sleep sets -/
theorem k_slp (hG : GI g) {f : Wd → Option (Int64 × Wd)} {v : Int64} (h : ∀ w w1 w2, f_X5_lookAt 0 0 w = some w1 → f_X5_exploreWithSleepSets 0 w1 = some w2 → SLX w2 g.2.1.1 g.2.1.2.1 → f w = some (v, w2)) : OK f g v g := fun w hC => by
  obtain ⟨w1, a1, a2, a3, a4, a5⟩ := look hG hC
  obtain ⟨w2, b1, b2, b3, b4⟩ := v_exploreWithSleepSets hG.2.1.1 a4 a5
  have sb : sub SWi SQ := sub_S2 (sub_S1 rfl) (sub_S1 rfl)
  exact ⟨w2, h w w1 w2 a1 b1 b4, (a2.tr (b2.sub sb)).sub sub_SQ, ⟨CJ_q (b2.sub sb) a3.1, Or.inr ⟨_, _, hG.2.1.1, hG.2.1.2.2.1, b3, Or.inr b4⟩⟩⟩
theorem k_slp0 (hG : GI g) : OK (f_X7_sleeping 0 (nI 0)) g (lN (zsm (sE g.2.1.1 g.2.1.2.1) 2401)) g := k_slp hG fun w w1 w2 h1 h2 h3 => by
  rw [e_X7_sleeping, h1, joc, h2, joc, if_pos (by rfl), e_X5_sleepEnds, joc, h3.1.1, aR_ends]
theorem k_slp1 (hG : GI g) : OK (f_X7_sleeping 0 (nI 1)) g (lN (aR g.2.1.1 g.2.1.2.1 2401).1.2.2) g := k_slp hG fun w w1 w2 h1 h2 h3 => by
  rw [e_X7_sleeping, h1, joc, h2, joc, if_neg (by decide), if_pos (by rfl), e_X5_sleepCuts, joc, h3.1.2]
theorem k_slp2 (hG : GI g) : OK (f_X7_sleeping 0 (nI 2)) g (lN (ndl g.2.1.1 g.2.1.2.1)) g := k_slp hG fun w w1 w2 h1 h2 h3 => by
  have e : ndl g.2.1.1 g.2.1.2.1 = (aR g.2.1.1 g.2.1.2.1 2401).2 := by
    have e1 := aR_dead (L := g.2.1.1) (P := g.2.1.2.1) hG.2.1.1 2401 (Nat.le_refl _)
    rw [e1]
    exact nd_all hG.2.1.1
  have hle := aR_le (L := g.2.1.1) (P := g.2.1.2.1) 2401
  rw [e_X7_sleeping, h1, joc, h2, joc, if_neg (by decide), if_neg (by decide), if_pos (by rfl), e_X5_sleepDeadlocks, joc, h3.2.1, e]
  simp (disch := omega) only [nI64]
theorem k_slp3 (hG : GI g) : OK (f_X7_sleeping 0 (nI 3)) g (-2) g := k_slp hG fun w w1 w2 h1 h2 h3 => by
  rw [e_X7_sleeping, h1, joc, h2, joc, if_neg (by decide), if_neg (by decide), if_neg (by decide)]
/-! the way -/
def oN : Option Nat → Nat
  | none => 0
  | some m => m
theorem k_way {v : Int32} (hG : GI g) (x : Int32) (hx1 : Int32.ofInt (-1) ≤ x) (h : ∀ w2, RR w2 12 (oN (shN g.2.1.1 g.2.1.2.1 2401)) (wR g.2.1.1 g.2.1.2.1) → (if x < 0 then (if (w2.1 3 12 1) = 0 then (some ((Int32.ofInt (-6)), w2)) else (some (w2.1 3 12 1, w2))) else (oC (f_X3_threadAt 12 x w2) fun q5 => (some (q5.1, q5.2)))) = some (v, w2)) : OK (f_X7_wayToDeadlock 0 x) g v g := fun w hC => by
  obtain ⟨w1, a1, a2, a3, a4, a5⟩ := look hG hC
  obtain ⟨w2, b1, b2, b3⟩ := v_leastShortest hG.2.1.1 a4
  have sb : sub SWy SQ := sub_S2 (sub_S1 rfl) (sub_S2 (sub_S1 rfl) (sub_S1 rfl))
  refine ⟨w2, ?_, (a2.tr (b2.sub sb)).sub sub_SQ, ⟨CJ_q (b2.sub sb) a3.1, CS_fr b2 rfl rfl rfl rfl rfl rfl a3.2⟩⟩
  have b3' : RR w2 12 (oN (shN g.2.1.1 g.2.1.2.1 2401)) (wR g.2.1.1 g.2.1.2.1) := by
    revert b3
    generalize shN g.2.1.1 g.2.1.2.1 2401 = o
    intro b3
    cases o <;> exact b3
  have h' := h w2 b3'
  have zt : ∀ {α : Type} (f : Option α), zif (Nat.beq 3 3) f = f := fun f => rfl
  rw [e_X7_wayToDeadlock, if_pos hx1, a1, joc, b1, joc]
  simp only [zt, e_X3_length, joc]
  exact h'
theorem k_way1 (hG : GI g) : OK (f_X7_wayToDeadlock 0 (Int32.ofInt (-1))) g (oI (shN g.2.1.1 g.2.1.2.1 2401)) g := k_way hG _ (by decide) fun w2 h => by
  rw [if_pos (by decide), h.1]
  cases hs : shN g.2.1.1 g.2.1.2.1 2401 with
  | none => rfl
  | some m =>
    have hp := sh_pos hG.2.1.1 hs
    have h24 := sh_lt 2401 m hs
    show (if nI m = 0 then some (Int32.ofInt (-6), w2) else some (nI m, w2)) = some (nI m, w2)
    rw [if_neg (by rw [jeq0 (by omega)]; omega)]
theorem k_wayp (hG : GI g) {p m : Nat} (hs : shN g.2.1.1 g.2.1.2.1 2401 = some m) (hp : p < m) : OK (f_X7_wayToDeadlock 0 (nI p)) g (nI (wR g.2.1.1 g.2.1.2.1 p)) g := by
  have h24 := sh_lt 2401 m hs
  have hl : Int32.ofInt (-1) ≤ nI p := Int32.le_trans (show Int32.ofInt (-1) ≤ 0 by decide) (by rw [jge0 (by omega)]; trivial)
  refine k_way hG _ hl fun w2 h => ?_
  rw [hs] at h
  rw [if_neg (by rw [jlt0 (by omega)]; exact id), RR_at h h24 hp, joc]
theorem k_wayn (hG : GI g) {p : Nat} (hp : p < 2147483648) (hs : ∀ m, shN g.2.1.1 g.2.1.2.1 2401 = some m → m ≤ p) : OK (f_X7_wayToDeadlock 0 (nI p)) g (Int32.ofInt (-6)) g := by
  have hl : Int32.ofInt (-1) ≤ nI p := Int32.le_trans (show Int32.ofInt (-1) ≤ 0 by decide) (by rw [jge0 hp]; trivial)
  refine k_way hG _ hl fun w2 h => ?_
  have hm : ∃ m, m ≤ p ∧ w2.1 3 12 1 = nI m := by
    cases e : shN g.2.1.1 g.2.1.2.1 2401 with
    | none => rw [e] at h; exact ⟨0, Nat.zero_le _, h.1⟩
    | some m => rw [e] at h; exact ⟨m, hs m e, h.1⟩
  obtain ⟨m, h1, h2⟩ := hm
  rw [if_neg (by rw [jlt0 hp]; exact id), e_X3_threadAt, h2]
  simp (disch := omega) only [jlt0, ↓reduceIte, jle]
  rw [if_pos (by omega), joc]
theorem k_way2 : OK (f_X7_wayToDeadlock 0 (Int32.ofInt (-2))) g (Int32.ofInt (-2)) g := OK_same fun w _ => by
  rw [e_X7_wayToDeadlock, if_neg (by decide)]
/-! without a lock -/
theorem k_without (hG : GI g) {l : Nat} (hl : l < 4) : OK (f_X7_without 0 (nI l)) g (nI (ndl (oL l g.2.1.1 g.2.1.2.1) (oP l g.2.1.1 g.2.1.2.1))) g := fun w hC => by
  obtain ⟨hW, hE, hN, hV⟩ := hG.2.1
  have sb : sub (S2 (SPg 9) SSp) SQ := sub_S2 (sub_S2 (sub_S1 rfl) (sub_S1 rfl)) (sub_S2 (sub_S1 rfl) (sub_S2 (sub_S2 (sub_S1 rfl) (sub_S1 rfl)) (sub_S2 (sub_S1 rfl) (sub_S2 (sub_S1 rfl) (sub_S1 rfl)))))
  obtain ⟨w1, a1, a2, a3⟩ := v_copyWithout (l := l) hW hl hC.1.2.1.1
  have fin : ∀ (L' : Nat → Nat) (P' : Nat → Nat → Nat), (w1.1 5 0 1 = nI 0 ∨ SPX w1 L' P' ∧ WP L' P' ∧ CN L' P') → (w1.1 5 0 1 = nI 0 ∨ w1.1 5 0 5 = nI 0 ∨ SLX w1 L' P') → ∃ w', f_X7_without 0 (nI l) w = some (nI (ndl (oL l g.2.1.1 g.2.1.2.1) (oP l g.2.1.1 g.2.1.2.1)), w') ∧ Fr SCl w w' ∧ CI w' g := fun L' P' hS1 hL => by
    obtain ⟨w2, b1, b2, b3, b4⟩ := v_lookAt (oW (l := l) hW) (oE hE) oC' (k := 9) (by decide) a3 hS1
    have ff : Fr SQ w w2 := ((a2.mono fun t i h => S2_l h).tr (b2.mono fun t i h => S2_r h) : Fr (S2 (SPg 9) SSp) w w2).sub sb
    refine ⟨w2, ?_, ff.sub sub_SQ, ⟨CJ_q ff hC.1, Or.inr ⟨_, _, oW hW, oC', b3, ?_⟩⟩⟩
    · rw [e_X7_without, v_isName (by omega), joc, if_pos (show l < 4 from hl), if_neg (show ¬ nI 1 = (0 : Int32) by decide), a1, joc, b1, joc, v_deadlocks (oW hW) b3, joc]
      rfl
    · rcases b4 with ⟨h1, h2, h3⟩ | h
      · rcases hL with h0 | h0 | h0
        · have := b3.2.2.2.2
          rw [h1, h0] at this
          exact absurd this (by decide)
        · left; rw [h1]; exact h0
        · right; rw [h1, ← h2, ← h3]; exact h0
      · exact Or.inl h
  rcases hC.2 with h0 | ⟨L', P', a, b, c, d⟩
  · have h0' : w1.1 5 0 1 = nI 0 := by rw [(a2 5 0 rfl).1]; exact h0
    exact fin g.2.1.1 g.2.1.2.1 (Or.inl h0') (Or.inl h0')
  · refine fin L' P' (Or.inr ⟨SPX_fr a2 rfl rfl rfl rfl rfl (by rw [(a2 5 0 rfl).1]) c, a, b⟩) (Or.inr ?_)
    rcases d with d | d
    · left; rw [(a2 5 0 rfl).1]; exact d
    · right; exact SLX_fr a2 rfl d
theorem k_without4 : OK (f_X7_without 0 (nI 4)) g (Int32.ofInt (-1)) g := OK_same fun w _ => by
  rw [e_X7_without, v_isName (by decide), joc, if_neg (show ¬ 4 < 4 by decide), if_pos (by rfl)]
/-! steps and counts -/
theorem k_of (hG : GI g) {t s : Nat} (ht : t < 4) (hs : s < g.2.1.1 t) {q : Nat} (hq : q < 3) : OK (f_X7_ofStep 0 (nI t) (nI s) (nI q)) g (nI (if q = 0 then g.2.1.2.1 t s / 4 else if q = 1 then g.2.1.2.1 t s % 4 else cfO g.2.1.1 g.2.1.2.1 t (g.2.1.2.1 t s) 4)) g := OK_same fun w hC => by
  have hW := hG.2.1.1
  have hP := P_lt hW ht hs
  rw [e_X7_ofStep, v_stepOf hC.1.2.1.1 hW ht hs, joc, if_neg (show ¬ nI (g.2.1.2.1 t s) = Int32.ofInt (-1) by rw [jm1 (by omega)]; exact id), v_kindOf (by omega), v_nameOf, v_conf hW hC.1.2.1.1 ht hs]
  simp (disch := omega) only [jl, joc, jeq]
  rcases (show q = 0 ∨ q = 1 ∨ q = 2 by omega) with rfl | rfl | rfl
  · rfl
  · rfl
  · rfl
theorem k_of_no (hG : GI g) {t s : Nat} (ht : t < 4) (hs : g.2.1.1 t ≤ s) (h31 : s < 2147483648) (z : Int32) : OK (f_X7_ofStep 0 (nI t) (nI s) z) g (Int32.ofInt (-1)) g := OK_same fun w hC => by
  rw [e_X7_ofStep, v_stepOf_no hC.1.2.1.1 hG.2.1.1 ht hs h31, joc, if_pos rfl]
theorem k_of_neg (y z : Int32) : OK (f_X7_ofStep 0 (Int32.ofInt (-1)) y z) g (Int32.ofInt (-1)) g := OK_same fun w hC => by
  rw [e_X7_ofStep, v_stepOf_t (Or.inl (by decide)), joc, if_pos rfl]
theorem k_count_t (hG : GI g) {q : Nat} (hq : q < 4) : OK (f_X7_count 0 (nI q)) g (nI (g.2.1.1 q)) g := OK_same fun w hC => by
  rw [e_X7_count, v_isThread (by omega), joc, if_pos hq, if_neg (show ¬ nI 1 = (0 : Int32) by decide), v_lengthOf hC.1.2.1.1 hq, joc]
theorem k_count4 (hG : GI g) : OK (f_X7_count 0 (nI 4)) g (nI (g.2.1.1 0 + g.2.1.1 1 + g.2.1.1 2 + g.2.1.1 3)) g := OK_same fun w hC => by
  rw [e_X7_count, v_isThread (by decide), joc, if_neg (show ¬ 4 < 4 by decide)]
  simp (disch := omega) only [jl, jeq, jeq0, ↓reduceIte, v_allSteps hC.1.2.1.1, joc]
theorem k_count5 : OK (f_X7_count 0 (nI 5)) g (nI g.1.1) g := OK_same fun w hC => by
  rw [e_X7_count, v_isThread (by decide), joc, if_neg (show ¬ 5 < 4 by decide)]
  simp (disch := omega) only [jl, jeq, jeq0, Nat.reduceEqDiff, ↓reduceIte, e_X1_length, joc, hC.1.1.1]
theorem k_count6 : OK (f_X7_count 0 (nI 6)) g (nI g.2.2.1.2.1) g := OK_same fun w hC => by
  rw [e_X7_count, v_isThread (by decide), joc, if_neg (show ¬ 6 < 4 by decide)]
  simp (disch := omega) only [jl, jeq, jeq0, Nat.reduceEqDiff, ↓reduceIte, e_X0_size, joc, hC.1.2.2.1.2.1]
theorem k_count7 : OK (f_X7_count 0 (nI 7)) g (nI g.2.1.2.2.1) g := OK_same fun w hC => by
  rw [e_X7_count, v_isThread (by decide), joc, if_neg (show ¬ 7 < 4 by decide)]
  simp (disch := omega) only [jl, jeq, jeq0, Nat.reduceEqDiff, ↓reduceIte, e_X3_length, joc, hC.1.2.1.2.1]
theorem k_count8 (hG : GI g) : OK (f_X7_count 0 (nI 8)) g (nI (prO g.2.1.1 g.2.1.2.1 4 / 2)) g := OK_same fun w hC => by
  rw [e_X7_count, v_isThread (by decide), joc, if_neg (show ¬ 8 < 4 by decide)]
  simp (disch := omega) only [jl, jeq, jeq0, Nat.reduceEqDiff, ↓reduceIte, v_pairs hG.2.1.1 hC.1.2.1.1, joc]
theorem k_count9 : OK (f_X7_count 0 (nI 9)) g (Int32.ofInt (-2)) g := OK_same fun w hC => by
  rw [e_X7_count, v_isThread (by decide), joc, if_neg (show ¬ 9 < 4 by decide), if_pos (by rfl), if_neg (by decide), if_neg (by decide), if_neg (by decide), if_neg (by decide), if_neg (by decide)]
theorem k_count_neg : OK (f_X7_count 0 (Int32.ofInt (-1))) g (Int32.ofInt (-2)) g := OK_same fun w hC => by
  rw [e_X7_count, v_isThread_neg (by decide), joc, if_pos (by rfl), if_neg (by decide), if_neg (by decide), if_neg (by decide), if_neg (by decide), if_neg (by decide)]
end KS
