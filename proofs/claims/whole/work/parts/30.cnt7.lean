/-! THE REFERENCE EXPLORES AND COUNTS. -/
section M7
variable {L : Nat → Nat} {P : Nat → Nat → Nat}
def go7 (L : Nat → Nat) (P : Nat → Nat → Nat) (i t : Nat) : Bool := goS L P (d7 i) t
theorem go7_next (hW : WP L P) {c t : Nat} (hc : c < 2401) (ht : t < 4) (hg : go7 L P c t = true) : c + g7 t < 2401 := by
  have h1 := goS_lt hg
  have h2 := (hW t ht).1
  exact (ds7.2.2.2 c t hc ht (by omega)).1
/-- the reference's stands are laid -/
def MX (w : Wd) (L : Nat → Nat) (P : Nat → Nat → Nat) : Prop := RQ w 0 0 L P ∧ HH w L P ∧ ∀ x, x < 2401 → w.2 33 0 x = lN (W7 L P x)
def SMx : Nat → Nat → Bool := S2 S32 (S1 33 0)
theorem u_ways_0 : ∀ (n c : Nat) (w : Wd), n + c = 2401 → (∀ x, x < c → w.2 33 0 x = lN 0) →
    ∃ w', x_X8_laysWays 6 [] [some (zr 8 0), some (zi (nI c)), none] w = x_X8_laysWays 35 [] [some (zr 8 0), some (zi (nI 0)), none] w' ∧ Fr (S1 33 0) w w' ∧ ∀ x, x < 2401 → w'.2 33 0 x = lN (if x = 0 then 1 else 0) := by
  intro n
  induction n with
  | zero =>
    intro c w hc hA
    refine ⟨wL w 33 0 0 (lN 1), ?_, Fr.rf.wL (by decide), fun x hx => ?_⟩
    · rw [e_X8_laysWays_6]
      simp (disch := omega) only [jl, jlL, jle, jchk, jcl]
      rw [if_pos (by omega)]
    · rw [jl2]
      by_cases h0 : x = 0
      · rw [if_pos ⟨rfl, rfl, h0⟩, if_pos h0]
      · rw [if_neg (fun z => h0 z.2.2), if_neg h0]
        exact hA x (by omega)
  | succ n ih =>
    intro c w hc hA
    obtain ⟨w', h1, h2, h3⟩ := ih (c + 1) (wL w 33 0 c (lN 0)) (by omega) (fun x hx => by
      rw [jl2]
      by_cases h0 : x = c
      · rw [if_pos ⟨rfl, rfl, h0⟩]
      · rw [if_neg (fun z => h0 z.2.2)]
        exact hA x (by omega))
    refine ⟨w', ?_, (Fr.rf.wL (by decide)).tr h2, h3⟩
    rw [← h1, e_X8_laysWays_6]
    simp (disch := omega) only [jl, jlL, jle, jchk, jcl, nI_add]
    rw [if_neg (by omega)]
theorem u_ways_in (hW : WP L P) {c : Nat} (hc : c < 2401) (hr : W7 L P c ≠ 0) : ∀ (n t : Nat) (w : Wd), n + t = 4 → RQ w 0 0 L P → HH w L P → (∀ x, x < 2401 → w.2 33 0 x = lN (zWp g7 (go7 L P) c t x)) →
    ∃ w', x_X8_laysWays 44 [] [some (zr 8 0), some (zi (nI c)), some (zi (nI t))] w = x_X8_laysWays 35 [] [some (zr 8 0), some (zi (nI (c + 1))), none] w' ∧ Fr (S1 33 0) w w' ∧ w'.1 = w.1 ∧ ∀ x, x < 2401 → w'.2 33 0 x = lN (zWp g7 (go7 L P) c 4 x) := by
  have hv := ds_reach ds7 hW c hc hr
  have hs : W7 L P c < 281474976710657 := ds_small ds7 (P := P) hW hc
  intro n
  induction n with
  | zero =>
    intro t w ht hR hH hA
    have : t = 4 := by omega
    subst this
    refine ⟨w, ?_, Fr.rf, rfl, hA⟩
    rw [e_X8_laysWays_44]
    simp (disch := omega) only [jl, jle, nI_add]
    rw [if_pos (by omega)]
  | succ n ih =>
    intro t w ht hR hH hA
    have h4 : t < 4 := by omega
    have hgp := g7_pos t
    have e1 := hA c hc
    rw [zWp_self] at e1
    have e1 : w.2 33 0 c = lN (W7 L P c) := e1
    have hcg := u_canGo hR hW hH (n := c) (by omega) h4 hv 0
    by_cases hgo : goS L P (d7 c) t = true
    · have hn := go7_next (P := P) hW hc h4 hgo
      have e2 := hA (c + g7 t) hn
      obtain ⟨w', h1, h2, h3, h5⟩ := ih (t + 1) (wL w 33 0 (c + g7 t) (lN (zWp g7 (go7 L P) c t (c + g7 t) + W7 L P c))) (by omega) hR hH (fun x hx => by
        rw [jl2, zWp_st h4 hgp.1]
        by_cases hxe : x = c + g7 t
        · rw [if_pos ⟨rfl, rfl, hxe⟩, hxe, if_pos ⟨rfl, hgo⟩]
          rfl
        · rw [if_neg (fun z => hxe z.2.2), if_neg (fun z => hxe z.1), Nat.add_zero]
          exact hA x hx)
      refine ⟨w', ?_, (Fr.rf.wL (by decide)).tr h2, h3, h5⟩
      rw [← h1, e_X8_laysWays_44]
      simp (disch := omega) only [jl, jlL, jle, jchk, jcl, e1, lcmpP, hr, hcg, hgo, joc, jeq0, Nat.reduceEqDiff, u_figure, nI_add, e2, lN_add, ↓reduceIte]
      rw [if_neg (by omega)]
    · have hgf : goS L P (d7 c) t = false := by
        cases h : goS L P (d7 c) t with
        | false => rfl
        | true => exact absurd h hgo
      obtain ⟨w', h1, h2, h3, h5⟩ := ih (t + 1) w (by omega) hR hH (fun x hx => by
        rw [zWp_st h4 hgp.1, if_neg (fun z => hgo z.2), Nat.add_zero]
        exact hA x hx)
      refine ⟨w', ?_, h2, h3, h5⟩
      rw [← h1, e_X8_laysWays_44]
      simp (disch := omega) only [jl, jlL, jle, jchk, jcl, e1, lcmpP, hr, hcg, hgf, joc, jeq0, nI_add, Bool.false_eq_true, ↓reduceIte]
      rw [if_neg (by omega)]
theorem u_ways_out (hW : WP L P) : ∀ (n c : Nat) (w : Wd), n + c = 2401 → RQ w 0 0 L P → HH w L P → (∀ x, x < 2401 → w.2 33 0 x = lN (zWp g7 (go7 L P) c 0 x)) →
    ∃ w', x_X8_laysWays 35 [] [some (zr 8 0), some (zi (nI c)), none] w = some w' ∧ Fr (S1 33 0) w w' ∧ w'.1 = w.1 ∧ ∀ x, x < 2401 → w'.2 33 0 x = lN (W7 L P x) := by
  intro n
  induction n with
  | zero =>
    intro c w hc hR hH hA
    have : c = 2401 := by omega
    subst this
    refine ⟨w, ?_, Fr.rf, rfl, fun x hx => ?_⟩
    · rw [e_X8_laysWays_35]
      simp (disch := omega) only [jl, jle]
      rw [if_pos (by omega)]
    · rw [hA x hx, zWp_end hx]; rfl
  | succ n ih =>
    intro c w hc hR hH hA
    have hc' : c < 2401 := by omega
    have hs : W7 L P c < 281474976710657 := ds_small ds7 (P := P) hW hc'
    have e0 : x_X8_laysWays 35 [] [some (zr 8 0), some (zi (nI c)), none] w = x_X8_laysWays 44 [] [some (zr 8 0), some (zi (nI c)), some (zi (nI 0))] w := by
      rw [e_X8_laysWays_35]
      simp (disch := omega) only [jl, jle]
      rw [if_neg (by omega)]
    rw [e0]
    by_cases hz : W7 L P c = 0
    · have hz' : zW g7 (go7 L P) c = 0 := hz
      have e1 := hA c hc'
      rw [zWp_self, hz'] at e1
      obtain ⟨w', h1, h2, h3, h4⟩ := ih (c + 1) w (by omega) hR hH (fun x hx => by rw [zWp_skip hz']; exact hA x hx)
      refine ⟨w', ?_, h2, h3, h4⟩
      rw [← h1, e_X8_laysWays_44]
      simp (disch := omega) only [jl, jlL, jle, jchk, jcl, e1, lcmpP, nI_add, ↓reduceIte]
      rw [if_neg (by omega)]
    · obtain ⟨w1, g1, g2, g3, g4⟩ := u_ways_in hW hc' hz 4 0 w rfl hR hH hA
      obtain ⟨w', h1, h2, h3, h4⟩ := ih (c + 1) w1 (by omega) (g2.RQ rfl hR) (fun u hu j hj => by rw [(g2 32 0 rfl).1]; exact hH u hu j hj) (fun x hx => by rw [g4 x hx, zWp_4])
      exact ⟨w', g1.trans h1, g2.tr h2, h3.trans g3, h4⟩
theorem u_laysWays (hW : WP L P) {w : Wd} (hR : RQ w 0 0 L P) : ∃ w', f_X8_laysWays 0 w = some w' ∧ Fr SMx w w' ∧ MX w' L P := by
  obtain ⟨w1, a1, a2, a3⟩ := u_laysHeld hW hR 0
  obtain ⟨w2, b1, b2, b3⟩ := u_ways_0 2401 0 w1 rfl (fun x hx => by omega)
  have hR1 := a2.RQ (i := 0) rfl hR
  have hR2 := b2.RQ (i := 0) rfl hR1
  have hH2 : HH w2 L P := fun u hu j hj => by rw [(b2 32 0 rfl).1]; exact a3 u hu j hj
  obtain ⟨w3, c1, c2, c3, c4⟩ := u_ways_out hW 2401 0 w2 rfl hR2 hH2 (fun x hx => by rw [zWp_0]; exact b3 x hx)
  refine ⟨w3, ?_, (a2.mono fun t i h => S2_l h).tr ((b2.tr c2).mono fun t i h => S2_r h), c2.RQ rfl hR2, fun u hu j hj => ?_, c4⟩
  · rw [e_X8_laysWays, a1, joc, ← c1, ← b1]
    simp only [jl]
  · rw [(c2 32 0 rfl).1]
    exact hH2 u hu j hj
variable {w : Wd}
theorem MX_end (hW : WP L P) (hX : MX w L P) {c : Nat} (hc : c < 2401) (hr : ¬ W7 L P c = 0) (k : Nat) : f_X8_isEnd k (nI c) w = some (nI (if endS L P (d7 c) = true then 1 else 0), w) :=
  u_isEnd_s hX.1 hW hX.2.1 (by omega) (ds_reach ds7 hW c hc hr) k
theorem MX_dead (hW : WP L P) (hX : MX w L P) {c : Nat} (hc : c < 2401) (hr : ¬ W7 L P c = 0) (k : Nat) : f_X8_isDeadlock k (nI c) w = some (nI (if deadS L P (d7 c) = true then 1 else 0), w) :=
  u_isDead_s hX.1 hW hX.2.1 (by omega) (ds_reach ds7 hW c hc hr) k
theorem W7_small (hW : WP L P) {c : Nat} (hc : c < 2401) : W7 L P c < 281474976710657 := ds_small ds7 (P := P) hW hc
def dB7 (L : Nat → Nat) (P : Nat → Nat → Nat) (c : Nat) : Bool := !decide (W7 L P c = 0) && deadS L P (d7 c)
def nd7 (L : Nat → Nat) (P : Nat → Nat → Nat) (c : Nat) : Nat := if dB7 L P c = true then 1 else 0
theorem u_deadlocks_lp (hW : WP L P) (hX : MX w L P) : ∀ (n c : Nat), n + c = 2401 →
    x_X8_deadlocks 8 [] [some (zr 8 0), some (zi (nI (zsm (nd7 L P) c))), some (zi (nI c))] w = some (nI (zsm (nd7 L P) 2401), w) := by
  intro n
  induction n with
  | zero =>
    intro c hc
    rw [e_X8_deadlocks_8]
    simp (disch := omega) only [jl, jle]
    rw [if_pos (by omega), show c = 2401 by omega]
  | succ n ih =>
    intro c hc
    have hc' : c < 2401 := by omega
    have hs := W7_small (P := P) hW hc'
    rw [← ih (c + 1) (by omega), e_X8_deadlocks_8]
    simp (disch := omega) only [jl, jlL, jle, jchk, jcl, hX.2.2 c hc', lcmpP, nI_add, zsm, Nat.add_zero]
    rw [if_neg (by omega)]
    unfold nd7 dB7
    by_cases hz : W7 L P c = 0
    · simp only [hz, ↓reduceIte, decide_true, Bool.not_true, Bool.false_and, Bool.false_eq_true, Nat.add_zero]
    · simp only [hz, ↓reduceIte, decide_false, Bool.not_false, Bool.true_and, MX_dead hW hX hc' hz, joc, j01]
      cases deadS L P (d7 c) <;> rfl
theorem u_deadlocks (hW : WP L P) {w : Wd} (hR : RQ w 0 0 L P) : ∃ w', f_X8_deadlocks 0 w = some (nI (zsm (nd7 L P) 2401), w') ∧ Fr SMx w w' ∧ MX w' L P := by
  obtain ⟨w', h1, h2, h3⟩ := u_laysWays hW hR
  refine ⟨w', ?_, h2, h3⟩
  rw [e_X8_deadlocks, h1, joc]
  exact u_deadlocks_lp hW h3 2401 0 rfl
/-- what stands(0), (1), (2) count at a stand -/
def ns7 (L : Nat → Nat) (P : Nat → Nat → Nat) (q c : Nat) : Nat := if (!decide (W7 L P c = 0) && (if q = 0 then true else if q = 1 then endS L P (d7 c) else deadS L P (d7 c))) = true then 1 else 0
theorem u_stands_lp (hW : WP L P) (hX : MX w L P) {q : Nat} (hq : q < 3) : ∀ (n c : Nat), n + c = 2401 →
    x_X8_stands 20 [] [some (zr 8 0), some (zi (nI q)), some (zi (nI (zsm (ns7 L P q) c))), some (zi (nI c))] w = some (nI (zsm (ns7 L P q) 2401), w) := by
  intro n
  induction n with
  | zero =>
    intro c hc
    rw [e_X8_stands_20]
    simp (disch := omega) only [jl, jle]
    rw [if_pos (by omega), show c = 2401 by omega]
  | succ n ih =>
    intro c hc
    have hc' : c < 2401 := by omega
    have hs := W7_small (P := P) hW hc'
    rw [← ih (c + 1) (by omega), e_X8_stands_20]
    simp (disch := omega) only [jl, jlL, jle, jchk, jcl, hX.2.2 c hc', lcmpP, nI_add, zsm, Nat.add_zero, jeq0, jeq, e_X8_stands_56]
    rw [if_neg (by omega)]
    unfold ns7
    by_cases hz : W7 L P c = 0
    · simp only [hz, ↓reduceIte, decide_true, Bool.not_true, Bool.false_and, Bool.false_eq_true, Nat.add_zero]
    · simp only [hz, ↓reduceIte, decide_false, Bool.not_false, Bool.true_and, MX_dead hW hX hc' hz, MX_end hW hX hc' hz, joc, j01]
      rcases (show q = 0 ∨ q = 1 ∨ q = 2 by omega) with rfl | rfl | rfl
      · simp
      · cases endS L P (d7 c) <;> simp
      · cases deadS L P (d7 c) <;> simp
theorem u_stands (hW : WP L P) {w : Wd} (hR : RQ w 0 0 L P) {q : Nat} (hq : q < 3) : ∃ w', f_X8_stands 0 (nI q) w = some (nI (zsm (ns7 L P q) 2401), w') ∧ Fr SMx w w' := by
  obtain ⟨w', h1, h2, h3⟩ := u_laysWays hW hR
  refine ⟨w', ?_, h2⟩
  rw [e_X8_stands]
  simp only [jl]
  rw [u_in_n (by omega) (by decide), joc, if_pos (show q ≤ 2 by omega)]
  simp (disch := omega) only [jeq0, Nat.reduceEqDiff, ↓reduceIte, h1, joc]
  exact u_stands_lp hW h3 hq 2401 0 rfl
theorem u_stands_no {w : Wd} {x : Int32} (hx : x < 0 ∨ ∃ n, n < 2147483648 ∧ x = nI n ∧ 3 ≤ n) : f_X8_stands 0 x w = some (Int32.ofInt (-2), w) := by
  rw [e_X8_stands]
  simp only [jl]
  rcases hx with hx | ⟨n, hn, rfl, h3⟩
  · rw [u_in_neg hx, joc]
    simp (disch := omega) only [jeq0, ↓reduceIte]
  · rw [u_in_n hn (by decide), joc, if_neg (show ¬ n ≤ 2 by omega)]
    simp (disch := omega) only [jeq0, ↓reduceIte]
/-- what runs(0), (1) count at a stand -/
def nr7 (L : Nat → Nat) (P : Nat → Nat → Nat) (q c : Nat) : Nat := if (if q = 0 then endS L P (d7 c) else deadS L P (d7 c)) = true then W7 L P c else 0
theorem lN_add0 (a : Nat) : lN a + lN 0 = lN a := by rw [lN_add, Nat.add_zero]
theorem u_runs_lp (hW : WP L P) (hX : MX w L P) {q : Nat} (hq : q < 2) : ∀ (n c : Nat), n + c = 2401 →
    x_X8_runs 22 [] [some (zr 8 0), some (zi (nI q)), some (zl (lN (zsm (nr7 L P q) c))), none, some (zi (nI c))] w = some (lN (zsm (nr7 L P q) 2401), w) := by
  intro n
  induction n with
  | zero =>
    intro c hc
    rw [e_X8_runs_22]
    simp (disch := omega) only [jl, jle]
    rw [if_pos (by omega), show c = 2401 by omega]
  | succ n ih =>
    intro c hc
    have hc' : c < 2401 := by omega
    rw [← ih (c + 1) (by omega), e_X8_runs_22]
    simp (disch := omega) only [jl, jlL, jle, jchk, jcl, hX.2.2 c hc', nI_add, zsm, jeq0, jeq, e_X8_runs_44, lN_add0, lN_add]
    rw [if_neg (by omega)]
    unfold nr7
    by_cases hz : W7 L P c = 0
    · obtain ⟨γ, hγ⟩ := u_isEnd_w hX.1 hW (n := c) (by omega) 0
      obtain ⟨δ, hδ⟩ := u_isDead_w hX.1 hW (n := c) (by omega) 0
      rcases (show q = 0 ∨ q = 1 by omega) with rfl | rfl
      · simp only [hγ, joc, j01, hX.2.2 c hc', hz, lN_add0, ↓reduceIte, ite_self, Nat.add_zero, Nat.reduceEqDiff]
      · simp only [hδ, joc, j01, hX.2.2 c hc', hz, lN_add0, ↓reduceIte, ite_self, Nat.add_zero, Nat.reduceEqDiff]
    · rcases (show q = 0 ∨ q = 1 by omega) with rfl | rfl
      · simp only [MX_end hW hX hc' hz, joc, j01, hX.2.2 c hc', ↓reduceIte, Nat.reduceEqDiff, lN_add]
        cases endS L P (d7 c) <;> simp
      · simp only [MX_dead hW hX hc' hz, joc, j01, hX.2.2 c hc', ↓reduceIte, Nat.reduceEqDiff, lN_add]
        cases deadS L P (d7 c) <;> simp
theorem u_runs (hW : WP L P) {w : Wd} (hR : RQ w 0 0 L P) {q : Nat} (hq : q < 2) : ∃ w', f_X8_runs 0 (nI q) w = some (lN (zsm (nr7 L P q) 2401), w') ∧ Fr SMx w w' := by
  obtain ⟨w', h1, h2, h3⟩ := u_laysWays hW hR
  refine ⟨w', ?_, h2⟩
  rw [e_X8_runs]
  simp only [jl]
  rw [u_in_n (by omega) (by decide), joc, if_pos (show q ≤ 1 by omega)]
  simp (disch := omega) only [jeq0, Nat.reduceEqDiff, ↓reduceIte, h1, joc]
  exact u_runs_lp hW h3 hq 2401 0 rfl
theorem u_runs_no {w : Wd} {x : Int32} (hx : x < 0 ∨ ∃ n, n < 2147483648 ∧ x = nI n ∧ 2 ≤ n) : f_X8_runs 0 x w = some (-2, w) := by
  rw [e_X8_runs]
  simp only [jl]
  rcases hx with hx | ⟨n, hn, rfl, h3⟩
  · rw [u_in_neg hx, joc]
    simp (disch := omega) only [jeq0, ↓reduceIte]
  · rw [u_in_n hn (by decide), joc, if_neg (show ¬ n ≤ 1 by omega)]
    simp (disch := omega) only [jeq0, ↓reduceIte]
end M7
