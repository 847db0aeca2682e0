/-! CLASS AND REFERENCE ANSWER ALIKE: stands, deadlock, runs. -/
section SM
variable {L : Nat → Nat} {P : Nat → Nat → Nat}
theorem zsm_same (hW : WP L P) {f g : Nat → Nat} (h0 : ∀ c, c < 4096 → W8 L P c = 0 → f c = 0) (h1 : ∀ n, n < 2401 → f (eN n) = g n) : zsm f 4096 = zsm g 2401 := by
  rw [zsm_all (fun c hc hf => W8_img hW hc fun hz => hf (h0 c hc hz))]
  exact zsm_congr h1
theorem dB_eN (hW : WP L P) {n : Nat} (hn : n < 2401) : dB8 L P (eN n) = dB7 L P n := by
  unfold dB8 dB7
  rw [W_eN hW n hn, eN_dig hn]
theorem nd_eN (hW : WP L P) {n : Nat} (hn : n < 2401) : nd8 L P (eN n) = nd7 L P n := by
  unfold nd8 nd7
  rw [dB_eN hW hn]
theorem dB8_W {c : Nat} (h : dB8 L P c = true) : ¬ W8 L P c = 0 := fun hz => by
  unfold dB8 at h
  rw [hz] at h
  simp at h
theorem nd_img (hW : WP L P) : ∀ c, c < 4096 → nd8 L P c ≠ 0 → ∃ n, n < 2401 ∧ eN n = c := fun c hc h => by
  refine W8_img hW hc (dB8_W (L := L) (P := P) ?_)
  cases hb : dB8 L P c with
  | true => rfl
  | false =>
    unfold nd8 at h
    rw [hb] at h
    exact absurd rfl h
theorem nd_pre (hW : WP L P) {n : Nat} (hn : n ≤ 2401) : zsm (nd8 L P) (eN n) = zsm (nd7 L P) n := by
  rw [zsm_eN (nd_img hW) n hn]
  exact zsm_congr fun i hi => nd_eN hW (by omega)
theorem nd_all (hW : WP L P) : zsm (nd8 L P) 4096 = zsm (nd7 L P) 2401 := zsm_same hW (fun c _ hz => by
  unfold nd8 dB8
  rw [hz]
  rfl) fun n hn => nd_eN hW hn
theorem q_stands (hW : WP L P) {w w1 : Wd} (hl : f_X5_lookAt 0 0 w = some w1) (hX : SPX w1 L P) (x : Int32) : ∃ v, f_X7_stands 0 x w = some (v, w1) ∧ ∀ wm, RQ wm 0 0 L P → ∃ wm', f_X8_stands 0 x wm = some (v, wm') ∧ Fr SMx wm wm' := by
  have hno : (x < 0 ∨ ∃ n, n < 2147483648 ∧ x = nI n ∧ 3 ≤ n) → ∃ v, f_X7_stands 0 x w = some (v, w1) ∧ ∀ wm, RQ wm 0 0 L P → ∃ wm', f_X8_stands 0 x wm = some (v, wm') ∧ Fr SMx wm wm' := fun h => by
    refine ⟨Int32.ofInt (-2), ?_, fun wm _ => ⟨wm, u_stands_no h, Fr.rf⟩⟩
    rw [e_X7_stands, hl, joc]
    simp only [jl]
    have hne : ∀ a, a < 3 → ¬ x = nI a := fun a ha e => by
      rcases h with h | ⟨n, hn, rfl, h3⟩
      · rw [e] at h
        exact nI_pos (show a < 2 ^ 31 by omega) h
      · have := nI_inj hn (by omega) e
        omega
    rw [if_neg (hne 0 (by decide)), if_neg (hne 1 (by decide)), if_neg (hne 2 (by decide))]
  rcases jnat x with hx | ⟨n, hn, rfl⟩
  · exact hno (Or.inl hx)
  · by_cases h3 : 3 ≤ n
    · exact hno (Or.inr ⟨n, hn, rfl, h3⟩)
    · refine ⟨nI (zsm (ns7 L P n) 2401), ?_, fun wm hR => u_stands hW hR (by omega)⟩
      rw [e_X7_stands, hl, joc]
      simp (disch := omega) only [jl, jeq]
      rcases (show n = 0 ∨ n = 1 ∨ n = 2 by omega) with rfl | rfl | rfl
      · rw [if_pos rfl, v_reachable hW hX, joc, zsm_same (g := ns7 L P 0) hW (fun c _ hz => by simp [hz]) fun n hn => by
          unfold ns7
          rw [W_eN hW n hn]
          simp]
      · rw [if_neg (by decide), if_pos rfl, v_ends hW hX, joc, zsm_same (g := ns7 L P 1) hW (fun c _ hz => by simp [hz]) fun n hn => by
          unfold ns7
          rw [W_eN hW n hn, eN_dig hn]
          simp]
      · rw [if_neg (by decide), if_neg (by decide), if_pos rfl, v_deadlocks hW hX, joc, zsm_same (g := ns7 L P 2) hW (fun c _ hz => by
          unfold nd8 dB8
          simp [hz]) fun n hn => by
          unfold ns7 nd8 dB8
          rw [W_eN hW n hn, eN_dig hn]
          simp]
theorem q_runs (hW : WP L P) {w w1 : Wd} (hl : f_X5_lookAt 0 0 w = some w1) (hX : SPX w1 L P) (x : Int32) : ∃ v, f_X7_runs 0 x w = some (v, w1) ∧ ∀ wm, RQ wm 0 0 L P → ∃ wm', f_X8_runs 0 x wm = some (v, wm') ∧ Fr SMx wm wm' := by
  have hno : (x < 0 ∨ ∃ n, n < 2147483648 ∧ x = nI n ∧ 2 ≤ n) → ∃ v, f_X7_runs 0 x w = some (v, w1) ∧ ∀ wm, RQ wm 0 0 L P → ∃ wm', f_X8_runs 0 x wm = some (v, wm') ∧ Fr SMx wm wm' := fun h => by
    refine ⟨-2, ?_, fun wm _ => ⟨wm, u_runs_no h, Fr.rf⟩⟩
    rw [e_X7_runs, hl, joc]
    simp only [jl]
    have hne : ∀ a, a < 2 → ¬ x = nI a := fun a ha e => by
      rcases h with h | ⟨n, hn, rfl, h3⟩
      · rw [e] at h
        exact nI_pos (show a < 2 ^ 31 by omega) h
      · have := nI_inj hn (by omega) e
        omega
    rw [if_neg (hne 0 (by decide)), if_neg (hne 1 (by decide))]
  rcases jnat x with hx | ⟨n, hn, rfl⟩
  · exact hno (Or.inl hx)
  · by_cases h3 : 2 ≤ n
    · exact hno (Or.inr ⟨n, hn, rfl, h3⟩)
    · refine ⟨lN (zsm (nr7 L P n) 2401), ?_, fun wm hR => u_runs hW hR (by omega)⟩
      rw [e_X7_runs, hl, joc]
      simp (disch := omega) only [jl, jeq]
      rcases (show n = 0 ∨ n = 1 by omega) with rfl | rfl
      · rw [if_pos rfl, v_wholeRuns hW hX, joc, zsm_same (g := nr7 L P 0) hW (fun c _ hz => by simp [hz]) fun n hn => by
          unfold nr7
          rw [W_eN hW n hn, eN_dig hn]
          by_cases hz : W7 L P n = 0 <;> simp [hz]]
      · rw [if_neg (by decide), if_pos rfl, v_wholeRunsD hW hX, joc, zsm_same (g := nr7 L P 1) hW (fun c _ hz => by
          unfold dB8
          simp [hz]) fun n hn => by
          unfold nr7 dB8
          rw [W_eN hW n hn, eN_dig hn]
          by_cases hz : W7 L P n = 0 <;> simp [hz]]
/-- what is told of a stand -/
def tS (L : Nat → Nat) (P : Nat → Nat → Nat) (q s : Nat) : Nat := if q < 4 then d7 s q else if q = 4 then msk fun t => decide (d7 s t < L t) else if q = 5 then len4 (d7 s) else or4 fun u => hx P u (d7 s u)
theorem u_told (hW : WP L P) {w : Wd} (hX : MX w L P) {s q : Nat} (hs : s < 2401) (hq : q < 7) (hv : ∀ u, u < 4 → d7 s u ≤ L u) : f_X8_toldOf 0 (nI s) (nI q) w = some (nI (tS L P q s), w) := by
  rw [e_X8_toldOf]
  simp (disch := omega) only [jl, jle]
  unfold tS
  by_cases h4 : q < 4
  · rw [if_neg (by omega), u_done (by omega) h4, joc, if_pos h4]
  · have st : ∀ t a, t < 4 → x_X8_toldOf 16 [] [some (zr 8 0), some (zi (nI s)), some (zi (nI q)), some (zi (nI a)), some (zi (nI t))] w = x_X8_toldOf 16 [] [some (zr 8 0), some (zi (nI s)), some (zi (nI q)), some (zi (nI (a ||| if decide (d7 s t < L t) = true then 2 ^ t else 0))), some (zi (nI (t + 1)))] w := fun t a ht => by
      have h2 : 2 ^ t ≤ 2 ^ 3 := Nat.pow_le_pow_right (by decide) (by omega)
      rw [e_X8_toldOf_16, u_hasNext hX.1 hW (by omega) ht]
      simp (disch := omega) only [jl, jle, joc, jor, nI_add, jshl, Nat.one_mul]
      rw [if_neg (by omega)]
      by_cases h : d7 s t < L t
      · rw [if_pos h, if_neg (by decide)]; simp [h]
      · rw [if_neg h, if_pos (show nI 0 = (0 : Int32) from rfl)]; simp [h]
    rw [if_pos (by omega), if_neg h4, st 0 0 (by decide), st 1 _ (by decide), st 2 _ (by decide), st 3 _ (by decide), e_X8_toldOf_16]
    simp (disch := omega) only [jl, jle, jeq, Nat.reduceAdd, Nat.le_refl, ↓reduceIte, Nat.zero_or, u_length, u_heldBut hX.2.1 (show s < 2147483648 by omega) hv, joc, jm6]
    by_cases h5 : q = 4
    · rw [if_pos h5, if_pos h5]; rfl
    · rw [if_neg h5, if_neg h5]
      by_cases h6 : q = 5
      · rw [if_pos h6, if_pos h6]
      · rw [if_neg h6, if_neg h6]
        have key : ∀ u, u < 4 → (if nI u = Int32.ofInt (-6) then 0 else hx P u (d7 s u)) = hx P u (d7 s u) := fun u hu => by
          rw [if_neg (by rw [jm6 (by omega)]; exact id)]
        simp only [or4, key 0 (by decide), key 1 (by decide), key 2 (by decide), key 3 (by decide)]
theorem u_dead_lp (hW : WP L P) {w : Wd} (hX : MX w L P) {i q : Nat} (hi : i < zsm (nd7 L P) 2401) (hq : q < 7) : ∀ (n s : Nat), n + s = 2401 → zsm (nd7 L P) s ≤ i →
    ∃ s', s' < 2401 ∧ dB7 L P s' = true ∧ zsm (nd7 L P) s' = i ∧ x_X8_deadlock 37 [] [some (zr 8 0), none, some (zi (nI q)), none, some (zi (nI (i - zsm (nd7 L P) s))), some (zi (nI s))] w = some (nI (tS L P q s'), w) := by
  have hz1 := zsm_le (f := nd7 L P) (b := 1) (n := 2401) fun i _ => by unfold nd7; split <;> decide
  intro n
  induction n with
  | zero =>
    intro s hs hle
    rw [show s = 2401 by omega] at hle
    omega
  | succ n ih =>
    intro s hs hle
    have hs' : s < 2401 := by omega
    have hsm := W7_small (P := P) hW hs'
    have hA := hX.2.2 s hs'
    have hz : zsm (nd7 L P) (s + 1) = zsm (nd7 L P) s + nd7 L P s := rfl
    rw [e_X8_deadlock_37, e_X8_deadlock_63]
    simp (disch := omega) only [jl, jlL, jchk, jcl, hA, lcmp0, lcmpP, jgt0, nI_add, jsub, Nat.sub_zero]
    cases hb : dB7 L P s with
    | false =>
      have e : nd7 L P s = 0 := by unfold nd7; rw [hb]; rfl
      rw [e] at hz
      obtain ⟨s', h1, h2, h3, h4⟩ := ih (s + 1) (by omega) (by omega)
      refine ⟨s', h1, h2, h3, ?_⟩
      rw [← h4, show zsm (nd7 L P) (s + 1) = zsm (nd7 L P) s from hz]
      by_cases hw : W7 L P s = 0
      · simp only [hw, ↓reduceIte, ite_self]
      · have hd : deadS L P (d7 s) = false := by
          unfold dB7 at hb
          simpa [hw] using hb
        simp only [hw, ↓reduceIte, MX_dead hW hX hs' hw, hd, joc, Bool.false_eq_true, jeq0, ite_self, show nI 0 = (0 : Int32) from rfl]
        by_cases hp : 0 < i - zsm (nd7 L P) s
        · rw [if_pos hp]
        · rw [if_neg hp, e_X8_deadlock_63]
          simp (disch := omega) only [jl, jlL, jchk, jcl, hA, lcmpP, hw, ↓reduceIte, MX_dead hW hX hs' hw, hd, joc, Bool.false_eq_true, nI_add, jsub, Nat.sub_zero, jeq0]
    | true =>
      have e : nd7 L P s = 1 := by unfold nd7; rw [hb]; rfl
      rw [e] at hz
      have hw : ¬ W7 L P s = 0 := fun h => by
        unfold dB7 at hb
        rw [h] at hb
        simp at hb
      have hd : deadS L P (d7 s) = true := by
        unfold dB7 at hb
        simpa [hw] using hb
      simp (disch := omega) only [hw, ↓reduceIte, MX_dead hW hX hs' hw, hd, joc, jeq0, Nat.reduceEqDiff]
      by_cases hf : zsm (nd7 L P) s = i
      · refine ⟨s, hs', hb, hf, ?_⟩
        rw [if_neg (by omega), u_told hW hX hs' hq (ds_reach ds7 hW s hs' hw), joc]
      · obtain ⟨s', h1, h2, h3, h4⟩ := ih (s + 1) (by omega) (by omega)
        refine ⟨s', h1, h2, h3, ?_⟩
        rw [← h4, if_pos (by omega), show i - zsm (nd7 L P) s - 1 = i - zsm (nd7 L P) (s + 1) by omega]
theorem nd_uniq {f : Nat → Nat} {a b i : Nat} (ha : f a = 1) (hb : f b = 1) (h1 : zsm f a = i) (h2 : zsm f b = i) : a = b := by
  have mono : ∀ c d, c ≤ d → zsm f c ≤ zsm f d := fun c d h => by
    induction h with
    | refl => exact Nat.le_refl _
    | step _ ih => exact Nat.le_trans ih (Nat.le_add_right _ _)
  rcases Nat.lt_trichotomy a b with q | q | q
  · have h3 := mono (a + 1) b q
    have h4 : zsm f (a + 1) = zsm f a + f a := rfl
    omega
  · exact q
  · have h3 := mono (b + 1) a q
    have h4 : zsm f (b + 1) = zsm f b + f b := rfl
    omega
theorem q_deadlock (hW : WP L P) {w w1 : Wd} (hl : f_X5_lookAt 0 0 w = some w1) (hX : SPX w1 L P) (x y : Int32) : ∃ v, f_X7_deadlock 0 x y w = some (v, w1) ∧ ∀ wm, RQ wm 0 0 L P → ∃ wm', f_X8_deadlock 0 x y wm = some (v, wm') ∧ Fr SMx wm wm' := by
  have hz1 := zsm_le (f := nd7 L P) (b := 1) (n := 2401) fun i _ => by unfold nd7; split <;> decide
  have hno : f_X5_deadlockAt 0 x w1 = some (Int32.ofInt (-1), w1) → (x < 0 ∨ ∃ n, n < 2147483648 ∧ x = nI n ∧ zsm (nd7 L P) 2401 ≤ n) → ∃ v, f_X7_deadlock 0 x y w = some (v, w1) ∧ ∀ wm, RQ wm 0 0 L P → ∃ wm', f_X8_deadlock 0 x y wm = some (v, wm') ∧ Fr SMx wm wm' := fun hd h => by
    refine ⟨Int32.ofInt (-1), ?_, fun wm hR => ?_⟩
    · rw [e_X7_deadlock, hl, joc, hd, joc, if_pos rfl]
    · obtain ⟨wm', h1, h2, h3⟩ := u_deadlocks hW hR
      refine ⟨wm', ?_, h2⟩
      rw [e_X8_deadlock, h1, joc, u_in, joc]
      rw [if_neg (fun hin : Int32.ofInt 0 ≤ x ∧ x ≤ nI (zsm (nd7 L P) 2401) - Int32.ofInt 1 => ?_)]
      · simp only [show nI 0 = (0 : Int32) from rfl, ↓reduceIte]
      · rcases h with h | ⟨n, hn, rfl, h3⟩
        · exact absurd hin.1 (Int32.not_le.mpr h)
        · by_cases h0 : zsm (nd7 L P) 2401 = 0
          · rw [h0, show nI 0 - Int32.ofInt 1 = Int32.ofInt (-1) from rfl] at hin
            have := Int32.le_trans hin.1 hin.2
            exact absurd this (by decide)
          · have h5 := hin.2
            rw [jl, jsub (by omega), jle hn (by omega)] at h5
            omega
  rcases jnat x with hx | ⟨i, hi, rfl⟩
  · exact hno (v_deadlockAt_neg hW hX hx) (Or.inl hx)
  · rcases v_deadlockAt hW hX hi with ⟨c, hc, hb, hcnt, hd⟩ | ⟨hle, hd⟩
    · obtain ⟨n, hn, rfl⟩ := W8_img hW hc (dB8_W hb)
      rw [dB_eN hW hn] at hb
      rw [nd_pre hW (by omega)] at hcnt
      have hlt : i < zsm (nd7 L P) 2401 := by
        rw [← hcnt]
        have mono : ∀ c d, c ≤ d → zsm (nd7 L P) c ≤ zsm (nd7 L P) d := fun c d h => by
          induction h with
          | refl => exact Nat.le_refl _
          | step _ ih => exact Nat.le_trans ih (Nat.le_add_right _ _)
        have h3 := mono (n + 1) 2401 (by omega)
        have h4 : zsm (nd7 L P) (n + 1) = zsm (nd7 L P) n + nd7 L P n := rfl
        have h5 : nd7 L P n = 1 := by unfold nd7; rw [hb]; rfl
        omega
      have hE := eN_lt hn
      have hr : ¬ W8 L P (eN n) = 0 := dB8_W (by rw [dB_eN hW hn]; exact hb)
      have hv8 := ds_reach ds8 hW (eN n) (by omega) hr
      have hv : ∀ u, u < 4 → d7 n u ≤ L u := fun u hu => by
        have := hv8 u hu
        rw [eN_dig hn] at this
        exact this
      have hin : ∀ wm, f_X8_in (nI i) (nI 0) (nI (zsm (nd7 L P) 2401) - nI 1) wm = some (nI 1, wm) := fun wm => by
        rw [jsub (by omega), u_in_n hi (by omega), if_pos (by omega)]
      have hcl : f_X7_deadlock 0 (nI i) y w = (oC (f_X7_isThread y w1) fun q3 => (if q3.1 = 0 then (if y = (nI 4) then (oC (f_X5_unfinishedThreads 0 (nI (eN n)) q3.2) fun q6 => (some (q6.1, q6.2))) else (if y = (nI 5) then (oC (f_X7_stepsDone (nI (eN n)) q3.2) fun q5 => (some (q5.1, q5.2))) else (if y = (nI 6) then (oC (f_X5_heldLocks 0 (nI (eN n)) q3.2) fun q4 => (some (q4.1, q4.2))) else (some ((Int32.ofInt (-2)), q3.2))))) else (oC (f_X7_doneBy (nI (eN n)) y q3.2) fun q7 => (some (q7.1, q7.2))))) := by
        rw [e_X7_deadlock, hl, joc, hd, joc]
        simp (disch := omega) only [jm1, ↓reduceIte, jl]
      have hbad : (y < 0 ∨ ∃ q, q < 2147483648 ∧ y = nI q ∧ 7 ≤ q) → ∃ v, f_X7_deadlock 0 (nI i) y w = some (v, w1) ∧ ∀ wm, RQ wm 0 0 L P → ∃ wm', f_X8_deadlock 0 (nI i) y wm = some (v, wm') ∧ Fr SMx wm wm' := fun h => by
        refine ⟨Int32.ofInt (-2), ?_, fun wm hR => ?_⟩
        · have hne : ∀ a, a < 7 → ¬ y = nI a := fun a ha e => by
            rcases h with h | ⟨n, hn, rfl, h3⟩
            · rw [e] at h
              exact nI_pos (show a < 2 ^ 31 by omega) h
            · have := nI_inj hn (by omega) e
              omega
          have ht : f_X7_isThread y w1 = some (nI 0, w1) := by
            rcases h with h | ⟨q, hq, rfl, h7⟩
            · exact v_isThread_neg h w1
            · rw [v_isThread hq, if_neg (by omega)]
          rw [hcl, ht, joc]
          rw [if_pos (show nI 0 = (0 : Int32) from rfl), if_neg (hne 4 (by decide)), if_neg (hne 5 (by decide)), if_neg (hne 6 (by decide))]
        · obtain ⟨wm', h1, h2, h3⟩ := u_deadlocks hW hR
          refine ⟨wm', ?_, h2⟩
          have hy : f_X8_in y (nI 0) (nI 6) wm' = some (nI 0, wm') := by
            rcases h with h | ⟨q, hq, rfl, h7⟩
            · exact u_in_neg h _ _
            · rw [u_in_n hq (by decide), if_neg (by omega)]
          rw [e_X8_deadlock, h1, joc]
          simp only [jl]
          rw [hin, joc]
          simp only [hy, joc]
          rw [if_neg (by decide), if_pos (by rfl)]
      rcases jnat y with hy | ⟨q, hq, rfl⟩
      · exact hbad (Or.inl hy)
      · by_cases h7 : 7 ≤ q
        · exact hbad (Or.inr ⟨q, hq, rfl, h7⟩)
        · refine ⟨nI (tS L P q n), ?_, fun wm hR => ?_⟩
          · rw [hcl, v_isThread hq, joc]
            unfold tS
            by_cases h4 : q < 4
            · simp (disch := omega) only [if_pos h4, jeq0, Nat.reduceEqDiff, ↓reduceIte, v_doneBy, joc, eN_dig hn]
            · simp (disch := omega) only [if_neg h4, jeq0, ↓reduceIte, jeq]
              by_cases h4 : q = 4
              · rw [if_pos h4, if_pos h4, v_unfinished hX.1 hW (by omega), joc, eN_dig hn]
              · rw [if_neg h4, if_neg h4]
                by_cases h5 : q = 5
                · rw [if_pos h5, if_pos h5, v_stepsDone (by omega), joc, eN_dig hn]
                · rw [if_neg h5, if_neg h5, if_pos (by omega), v_heldLocks hX.2.1 (by omega), joc, eN_dig hn]
                  have key : ∀ u, u < 4 → hx P u (min (d7 n u) (L u)) = hx P u (d7 n u) := fun u hu => by
                    rw [show min (d7 n u) (L u) = d7 n u from Nat.min_eq_left (hv u hu)]
                  simp only [or4, key 0 (by decide), key 1 (by decide), key 2 (by decide), key 3 (by decide)]
          · obtain ⟨wm', h1, h2, h3⟩ := u_deadlocks hW hR
            refine ⟨wm', ?_, h2⟩
            obtain ⟨s', g1, g2, g3, g4⟩ := u_dead_lp hW h3 (q := q) hlt (by omega) 2401 0 rfl (Nat.zero_le _)
            have e : s' = n := nd_uniq (f := nd7 L P) (by unfold nd7; rw [g2]; rfl) (by unfold nd7; rw [hb]; rfl) g3 hcnt
            rw [e] at g4
            rw [e_X8_deadlock, h1, joc]
            simp only [jl]
            rw [hin, joc]
            simp only [u_in_n hq (show 6 < 2147483648 by decide), joc]
            rw [if_neg (by decide), if_pos (show q ≤ 6 by omega), if_neg (by decide)]
            exact g4
    · exact hno hd (Or.inr ⟨i, hi, rfl, by rw [← nd_all hW]; exact hle⟩)
end SM
