/-! WITHOUT A LOCK: the reference; copying states. -/
def sz (k : Nat) : Nat := if k = 1 then 318 else if k = 2 then 106 else 53
theorem sz_le (k : Nat) : sz k ≤ 318 := by
  unfold sz
  split
  · decide
  · split <;> decide
theorem u_copies_lp {k0 k2 a b : Nat} (hk : k0 ≠ k2) (ha : a + 53 ≤ sz k0) (hb : b + 53 ≤ sz k2) : ∀ (n j : Nat) (w : Wd), n + j = 53 →
    ∃ w', x_X8_copies 3 [] [some (zr 30 k0), some (zi (nI a)), some (zr 30 k2), some (zi (nI b)), some (zi (nI j))] w = some w' ∧ Fr (S1 30 k2) w w' ∧ (∀ i, j ≤ i → i < 53 → w'.1 30 k2 (b + i) = w.1 30 k0 (a + i)) ∧ ∀ i, (i < b + j ∨ b + 53 ≤ i) → w'.1 30 k2 i = w.1 30 k2 i := by
  have s0 := sz_le k0
  have s2 := sz_le k2
  intro n
  induction n with
  | zero =>
    intro j w hj
    refine ⟨w, ?_, Fr.rf, fun i h1 h2 => by omega, fun _ _ => rfl⟩
    rw [e_X8_copies_3]
    simp (disch := omega) only [jl, jle]
    rw [if_pos (by omega)]
  | succ n ih =>
    intro j w hj
    obtain ⟨w', h1, h2, h3, h4⟩ := ih (j + 1) (wI w 30 k2 (b + j) (w.1 30 k0 (a + j))) (by omega)
    refine ⟨w', ?_, (Fr.rf.wI (S1_self 30 k2)).tr h2, fun i h5 h6 => ?_, fun i h5 => ?_⟩
    · rw [← h1, e_X8_copies_3, show (if k0 = 1 then 318 else if k0 = 2 then 106 else 53) = sz k0 from rfl, show (if k2 = 1 then 318 else if k2 = 2 then 106 else 53) = sz k2 from rfl]
      simp (disch := omega) only [jl, jle, nI_add, jchk, jcl]
      rw [if_neg (by omega)]
    · by_cases e : i = j
      · rw [e, h4 _ (by omega), jw1, if_pos ⟨rfl, rfl, rfl⟩]
      · rw [h3 i (by omega) h6, jw1, if_neg (fun z => hk z.2.1)]
    · rw [h4 i (by omega), jw1, if_neg (by omega)]
theorem u_copies {k0 k2 a b : Nat} (hk : k0 ≠ k2) (ha : a + 53 ≤ sz k0) (hb : b + 53 ≤ sz k2) (w : Wd) :
    ∃ w', f_X8_copies k0 (nI a) k2 (nI b) w = some w' ∧ Fr (S1 30 k2) w w' ∧ (∀ i, i < 53 → w'.1 30 k2 (b + i) = w.1 30 k0 (a + i)) ∧ ∀ i, (i < b ∨ b + 53 ≤ i) → w'.1 30 k2 i = w.1 30 k2 i := by
  obtain ⟨w', h1, h2, h3, h4⟩ := u_copies_lp hk ha hb 53 0 w rfl
  exact ⟨w', by rw [e_X8_copies]; exact h1, h2, fun i hi => h3 i (Nat.zero_le _) hi, fun i hi => h4 i (by omega)⟩
section WO7
variable {L : Nat → Nat} {P : Nat → Nat → Nat} {l : Nat}
/-- the reference's rows, as far as they are thinned -/
def DQ (w : Wd) (l : Nat) (P : Nat → Nat → Nat) (t : Nat) (L : Nat → Nat) : Prop := ∀ u, u < t → w.1 30 0 u = nI (fl l P u (L u)) ∧ ∀ s, s < fl l P u (L u) → w.1 30 0 (4 + 6 * u + s) = nI (fp l P u (L u) s)
def S30 : Nat → Nat → Bool := S1 30 0
theorem u_wo_in (hW : WP L P) (hl : l < 4) {t : Nat} (ht : t < 4) : ∀ (n j : Nat) (w : Wd), n + j = L t → RQ w 3 0 L P → DQ w l P t L → (∀ s, s < fl l P t j → w.1 30 0 (4 + 6 * t + s) = nI (fp l P t j s)) →
    ∃ w', x_X8_without 36 [] [some (zr 8 0), some (zi (nI l)), some (zi (nI t)), some (zi (nI (fl l P t j))), some (zi (nI j)), none] w = x_X8_without 26 [] [some (zr 8 0), some (zi (nI l)), some (zi (nI (t + 1))), none, none, none] w' ∧ Fr S30 w w' ∧ DQ w' l P (t + 1) L := by
  have hL := (hW t ht).1
  intro n
  induction n with
  | zero =>
    intro j w hj hR hD h11
    have hLt := hR.1 t ht
    rw [Nat.zero_add] at hLt
    have hfl := fl_le (l := l) (P := P) t j
    refine ⟨wI w 30 0 t (nI (fl l P t j)), ?_, Fr.rf.wI (by decide), fun u hu => ?_⟩
    · rw [e_X8_without_36]
      simp (disch := omega) only [jl, jchk, jcl, hLt, jle, nI_add]
      rw [if_pos (by omega)]
    · by_cases e : u = t
      · rw [e, show L t = j by omega]
        refine ⟨by rw [jw1, if_pos ⟨rfl, rfl, rfl⟩], fun s hs => ?_⟩
        rw [jw1, if_neg (by omega)]
        exact h11 s hs
      · refine ⟨?_, fun s hs => ?_⟩
        · rw [jw1, if_neg (by omega)]
          exact (hD u (by omega)).1
        · rw [jw1, if_neg (by omega)]
          exact (hD u (by omega)).2 s hs
  | succ n ih =>
    intro j w hj hR hD h11
    have hjL : j < L t := by omega
    have hP := (hW t ht).2 j hjL
    have hLt := hR.1 t ht
    rw [Nat.zero_add] at hLt
    have hPt := hR.2 t j ht hjL
    rw [Nat.zero_add] at hPt
    have hfl := fl_le (l := l) (P := P) t j
    have e1 : fl l P t (j + 1) = fl l P t j + if kp l (P t j) = true then 1 else 0 := rfl
    have keep : kp l (P t j) = true → ∃ w', x_X8_without 79 [] [some (zr 8 0), some (zi (nI l)), some (zi (nI t)), some (zi (nI (fl l P t j))), some (zi (nI j)), some (zi (nI (P t j)))] w = x_X8_without 26 [] [some (zr 8 0), some (zi (nI l)), some (zi (nI (t + 1))), none, none, none] w' ∧ Fr S30 w w' ∧ DQ w' l P (t + 1) L := fun hk => by
      rw [if_pos hk] at e1
      have f1 : Fr S30 w (wI w 30 0 (4 + 6 * t + fl l P t j) (nI (P t j))) := Fr.rf.wI (by decide)
      obtain ⟨w', h1, h2, h3⟩ := ih (j + 1) _ (by omega) (f1.RQ rfl hR) (fun u hu => by
        have hflu := fl_le (l := l) (P := P) u (L u)
        have hLu := (hW u (by omega)).1
        refine ⟨?_, fun s hs => ?_⟩
        · rw [jw1, if_neg (by omega)]
          exact (hD u hu).1
        · rw [jw1, if_neg (by omega)]
          exact (hD u hu).2 s hs) (fun s hs => by
        rw [jw1, fp]
        by_cases e : s = fl l P t j
        · rw [if_pos ⟨rfl, rfl, by rw [e]⟩, if_pos ⟨e, hk⟩]
        · rw [if_neg (by omega), if_neg (fun z => e z.1)]
          exact h11 s (by omega))
      refine ⟨w', ?_, f1.tr h2, h3⟩
      rw [← h1, e_X8_without_79, e1]
      simp (disch := omega) only [jl, jmul, nI_add, jchk, jcl]
    rw [e_X8_without_36]
    simp (disch := omega) only [jl, jchk, jcl, hLt, jle, jmul, nI_add, hPt, jeq0, Nat.reduceEqDiff, ↓reduceIte, jdiv, jlt, jsub, jmod, jeq]
    rw [if_neg (by omega)]
    by_cases h2 : P t j / 4 < 2
    · rw [if_pos h2]
      exact keep (by unfold kp; simp [h2])
    · rw [if_neg h2]
      by_cases hm : P t j % 4 = l
      · rw [if_pos hm]
        have hk : ¬ kp l (P t j) = true := by
          unfold kp
          simp [h2, hm]
        rw [if_neg hk, Nat.add_zero] at e1
        have := ih (j + 1) w (by omega) hR hD (fun s hs => by
          rw [fp, if_neg (fun z => hk z.2)]
          exact h11 s (by omega))
        rw [e1] at this
        exact this
      · rw [if_neg hm]
        exact keep (by unfold kp; simp [hm])
theorem u_wo_out (hW : WP L P) (hl : l < 4) : ∀ (n t : Nat) (w : Wd), n + t = 4 → RQ w 3 0 L P → DQ w l P t L →
    ∃ w', x_X8_without 26 [] [some (zr 8 0), some (zi (nI l)), some (zi (nI t)), none, none, none] w = x_X8_without 26 [] [some (zr 8 0), some (zi (nI l)), some (zi (nI 4)), none, none, none] w' ∧ Fr S30 w w' ∧ DQ w' l P 4 L := by
  intro n
  induction n with
  | zero =>
    intro t w ht hR hD
    have : t = 4 := by omega
    subst this
    exact ⟨w, rfl, Fr.rf, hD⟩
  | succ n ih =>
    intro t w ht hR hD
    obtain ⟨w1, a1, a2, a3⟩ := u_wo_in hW hl (t := t) (by omega) (L t) 0 w rfl hR hD (fun s hs => by cases hs)
    obtain ⟨w', h1, h2, h3⟩ := ih (t + 1) w1 (by omega) (a2.RQ rfl hR) a3
    refine ⟨w', ?_, a2.tr h2, h3⟩
    have a1' : x_X8_without 36 [] [some (zr 8 0), some (zi (nI l)), some (zi (nI t)), some (zi (nI 0)), some (zi (nI 0)), none] w = _ := a1
    rw [← h1, ← a1', e_X8_without_26]
    simp (disch := omega) only [jl, jle]
    rw [if_neg (by omega)]
def SMo : Nat → Nat → Bool := S2 SMx (S2 S30 (S1 30 3))
theorem u_without (hW : WP L P) (hl : l < 4) {w : Wd} (hR : RQ w 0 0 L P) : ∃ w', f_X8_without 0 (nI l) w = some (nI (zsm (nd7 (oL l L P) (oP l L P)) 2401), w') ∧ Fr SMo w w' ∧ ∀ i, i < 53 → w'.1 30 0 i = w.1 30 0 i := by
  obtain ⟨w1, a1, a2, a3, -⟩ := u_copies (k0 := 0) (k2 := 3) (a := 0) (b := 0) (by decide) (by decide) (by decide) w
  have hR1 : RQ w1 3 0 L P := ⟨fun t ht => by
    rw [Nat.zero_add]
    have := a3 t (by omega)
    rw [Nat.zero_add] at this
    rw [this]
    exact (by simpa using hR.1 t ht), fun t s ht hs => by
    have hL := (hW t ht).1
    rw [Nat.zero_add]
    have := a3 (4 + 6 * t + s) (by omega)
    rw [Nat.zero_add] at this
    rw [this]
    have h := hR.2 t s ht hs
    rw [Nat.zero_add] at h
    exact h⟩
  obtain ⟨w2, b1, b2, b3⟩ := u_wo_out hW hl 4 0 w1 rfl hR1 (fun u hu => by omega)
  have hR2 : RQ w2 0 0 (oL l L P) (oP l L P) := ⟨fun t ht => by
    rw [Nat.zero_add]
    unfold oL
    rw [if_pos ht]
    exact (b3 t ht).1, fun t s ht hs => by
    unfold oL at hs
    unfold oP
    rw [if_pos ht] at hs ⊢
    rw [Nat.zero_add]
    exact (b3 t ht).2 s hs⟩
  obtain ⟨w3, c1, c2, -⟩ := u_deadlocks (oW (l := l) hW) hR2
  obtain ⟨w4, d1, d2, d3, -⟩ := u_copies (k0 := 3) (k2 := 0) (a := 0) (b := 0) (by decide) (by decide) (by decide) w3
  refine ⟨w4, ?_, ?_, fun i hi => ?_⟩
  · rw [e_X8_without]
    simp only [jl]
    rw [u_in_n (by omega) (by decide), joc, if_pos (show l ≤ 3 by omega)]
    rw [if_neg (show ¬ nI 1 = (0 : Int32) by decide), a1, joc, b1, e_X8_without_26]
    simp (disch := omega) only [jl, jle, Nat.le_refl, ↓reduceIte, c1, joc, d1]
  · exact (a2.mono fun t i h => S2_r (S2_r h)).tr ((b2.mono fun t i h => S2_l (S2_r h)).tr ((c2.mono fun t i h => S2_l h).tr (d2.mono fun t i h => S2_l (S2_r h))))
  · have e := d3 i hi
    rw [Nat.zero_add] at e
    have e2 := a3 i hi
    rw [Nat.zero_add] at e2
    rw [e, (c2 30 3 rfl).1, (b2 30 3 rfl).1, e2]
theorem u_without_no {w : Wd} {x : Int32} (hx : x < 0 ∨ ∃ n, n < 2147483648 ∧ x = nI n ∧ 4 ≤ n) : f_X8_without 0 x w = some (Int32.ofInt (-1), w) := by
  rw [e_X8_without]
  simp only [jl]
  rcases hx with hx | ⟨n, hn, rfl, h3⟩
  · rw [u_in_neg hx, joc, if_pos (by rfl)]
  · rw [u_in_n hn (by decide), joc, if_neg (show ¬ n ≤ 3 by omega), if_pos (by rfl)]
def SWo : Nat → Nat → Bool := S2 (SPg 9) SSp
theorem q_without (hW : WP L P) (hE : WE L P) {w : Wd} (hR : RP w 0 L P) {L' : Nat → Nat} {P' : Nat → Nat → Nat} (hS : w.1 5 0 1 = nI 0 ∨ SPX w L' P' ∧ WP L' P' ∧ CN L' P') (x : Int32) :
    ∃ v w2, f_X7_without 0 x w = some (v, w2) ∧ (w2 = w ∨ Fr SWo w w2 ∧ ∃ L2 P2, SPX w2 L2 P2 ∧ WP L2 P2 ∧ CN L2 P2 ∧ (w2.1 5 0 5 = nI 0 ∨ (∀ j, w2.1 5 0 j = w.1 5 0 j) ∧ (∀ j, w2.2 5 0 j = w.2 5 0 j) ∧ L2 = L' ∧ P2 = P')) ∧ ∀ wm, RQ wm 0 0 L P → ∃ wm', f_X8_without 0 x wm = some (v, wm') ∧ Fr SMo wm wm' ∧ ∀ i, i < 53 → wm'.1 30 0 i = wm.1 30 0 i := by
  have hno : (x < 0 ∨ ∃ n, n < 2147483648 ∧ x = nI n ∧ 4 ≤ n) → f_X7_without 0 x w = some (Int32.ofInt (-1), w) := fun h => by
    rw [e_X7_without]
    rcases h with h | ⟨n, hn, rfl, h4⟩
    · rw [v_isName_neg h, joc, if_pos (by rfl)]
    · rw [v_isName hn, joc, if_neg (show ¬ n < 4 by omega), if_pos (by rfl)]
  have bad : (x < 0 ∨ ∃ n, n < 2147483648 ∧ x = nI n ∧ 4 ≤ n) → ∃ v w2, f_X7_without 0 x w = some (v, w2) ∧ (w2 = w ∨ Fr SWo w w2 ∧ ∃ L2 P2, SPX w2 L2 P2 ∧ WP L2 P2 ∧ CN L2 P2 ∧ (w2.1 5 0 5 = nI 0 ∨ (∀ j, w2.1 5 0 j = w.1 5 0 j) ∧ (∀ j, w2.2 5 0 j = w.2 5 0 j) ∧ L2 = L' ∧ P2 = P')) ∧ ∀ wm, RQ wm 0 0 L P → ∃ wm', f_X8_without 0 x wm = some (v, wm') ∧ Fr SMo wm wm' ∧ ∀ i, i < 53 → wm'.1 30 0 i = wm.1 30 0 i := fun h =>
    ⟨_, w, hno h, Or.inl rfl, fun wm _ => ⟨wm, u_without_no h, Fr.rf, fun _ _ => rfl⟩⟩
  rcases jnat x with hx | ⟨n, hn, rfl⟩
  · exact bad (Or.inl hx)
  · by_cases h4 : 4 ≤ n
    · exact bad (Or.inr ⟨n, hn, rfl, h4⟩)
    · obtain ⟨w1, a1, a2, a3⟩ := v_copyWithout (l := n) hW (by omega) hR
      have hS1 : w1.1 5 0 1 = nI 0 ∨ SPX w1 L' P' ∧ WP L' P' ∧ CN L' P' := by
        rcases hS with h | ⟨h1, h2⟩
        · left
          rw [(a2 5 0 rfl).1]
          exact h
        · exact Or.inr ⟨SPX_fr a2 rfl rfl rfl rfl rfl (by rw [(a2 5 0 rfl).1]) h1, h2⟩
      obtain ⟨w2, b1, b2, b3, b4⟩ := v_lookAt (oW (l := n) hW) (oE hE) oC' (k := 9) (by decide) a3 hS1
      refine ⟨nI (zsm (nd8 (oL n L P) (oP n L P)) 4096), w2, ?_, Or.inr ⟨(a2.mono fun t i h => S2_l h).tr (b2.mono fun t i h => S2_r h), _, _, b3, oW hW, oC', ?_⟩, fun wm hRm => ?_⟩
      · rw [e_X7_without, v_isName hn, joc, if_pos (show n < 4 by omega), if_neg (show ¬ nI 1 = (0 : Int32) by decide), a1, joc, b1, joc, v_deadlocks (oW hW) b3, joc]
      · rcases b4 with ⟨h1, h2, h3⟩ | h
        · right
          exact ⟨fun j => by rw [h1, (a2 5 0 rfl).1], fun j => by rw [h1, (a2 5 0 rfl).2], h2.symm, h3.symm⟩
        · exact Or.inl h
      · rw [nd_all (oW hW)]
        exact u_without hW (by omega) hRm
end WO7
