/-! WITHOUT A LOCK. -/
section WO
/-- whether a step stays -/
def kp (l c : Nat) : Bool := decide (c / 4 < 2) || !decide (c % 4 = l)
def fl (l : Nat) (P : Nat → Nat → Nat) (t : Nat) : Nat → Nat
  | 0 => 0
  | j + 1 => fl l P t j + if kp l (P t j) = true then 1 else 0
def fp (l : Nat) (P : Nat → Nat → Nat) (t : Nat) : Nat → Nat → Nat
  | 0, _ => 0
  | j + 1, s => if s = fl l P t j ∧ kp l (P t j) = true then P t j else fp l P t j s
def oL (l : Nat) (L : Nat → Nat) (P : Nat → Nat → Nat) (t : Nat) : Nat := if t < 4 then fl l P t (L t) else 0
def oP (l : Nat) (L : Nat → Nat) (P : Nat → Nat → Nat) (t s : Nat) : Nat := if t < 4 then fp l P t (L t) s else 0
variable {L : Nat → Nat} {P : Nat → Nat → Nat} {l : Nat}
theorem fl_le (t : Nat) : ∀ j, fl l P t j ≤ j
  | 0 => Nat.le_refl _
  | j + 1 => by
    have := fl_le t j
    rw [fl]
    split <;> omega
theorem fl_mono (t : Nat) {i j : Nat} (h : i ≤ j) : fl l P t i ≤ fl l P t j := by
  induction h with
  | refl => exact Nat.le_refl _
  | step _ ih => exact Nat.le_trans ih (Nat.le_add_right _ _)
theorem fp_0 (t : Nat) : ∀ j s, fl l P t j ≤ s → fp l P t j s = 0
  | 0, _, _ => rfl
  | j + 1, s, h => by
    rw [fl] at h
    rw [fp]
    by_cases hk : kp l (P t j) = true
    · rw [if_pos hk] at h
      rw [if_neg (by omega)]
      exact fp_0 t j s (by omega)
    · rw [if_neg (fun z => hk z.2)]
      exact fp_0 t j s (by omega)
theorem fp_in (t : Nat) : ∀ j s, s < fl l P t j → ∃ i, i < j ∧ fl l P t i = s ∧ kp l (P t i) = true ∧ fp l P t j s = P t i
  | 0, s, h => by cases h
  | j + 1, s, h => by
    rw [fl] at h
    rw [fp]
    by_cases hc : s = fl l P t j ∧ kp l (P t j) = true
    · rw [if_pos hc]
      exact ⟨j, by omega, hc.1.symm, hc.2, rfl⟩
    · rw [if_neg hc]
      have : s < fl l P t j := by
        by_cases hk : kp l (P t j) = true
        · rw [if_pos hk] at h
          have : s ≠ fl l P t j := fun e => hc ⟨e, hk⟩
          omega
        · rw [if_neg hk] at h
          omega
      obtain ⟨i, h1, h2⟩ := fp_in t j s this
      exact ⟨i, by omega, h2⟩
theorem fp_st (t : Nat) {i j : Nat} (h : i ≤ j) {s : Nat} (hs : s < fl l P t i) : fp l P t j s = fp l P t i s := by
  induction h with
  | refl => rfl
  | step hle ih =>
    have := fl_mono (l := l) (P := P) t hle
    rw [fp, if_neg (by omega), ih]
theorem oW (hW : WP L P) : WP (oL l L P) (oP l L P) := fun t ht => by
  have h := hW t ht
  have hle := fl_le (l := l) (P := P) t (L t)
  unfold oL oP
  rw [if_pos ht]
  refine ⟨by omega, fun s hs => ?_⟩
  rw [if_pos ht]
  obtain ⟨i, h1, h2, h3, h4⟩ := fp_in t (L t) s hs
  rw [h4]
  exact h.2 i h1
theorem oC' : CN (oL l L P) (oP l L P) := by
  refine ⟨fun t ht => if_neg (by omega), fun t s h => ?_⟩
  unfold oP
  by_cases ht : t < 4
  · rw [if_pos ht]
    refine fp_0 t _ s ?_
    rcases h with h | h
    · omega
    · unfold oL at h
      rw [if_pos ht] at h
      exact h
  · rw [if_neg ht]
theorem hbit_bit (c m : Nat) : (hbit c).testBit m = (decide (2 ≤ c / 4) && decide (c % 4 = m)) := by
  unfold hbit
  by_cases h : c / 4 < 2
  · rw [if_pos h, Nat.zero_testBit]
    simp [show ¬ 2 ≤ c / 4 by omega]
  · rw [if_neg h, Nat.testBit_two_pow]
    simp [show 2 ≤ c / 4 by omega]
/-- what is held, but for that lock, is the same -/
theorem o_held {t : Nat} (ht : t < 4) : ∀ j, j ≤ L t → ∀ m, m ≠ l → (hx (oP l L P) t (fl l P t j)).testBit m = (hx P t j).testBit m
  | 0, _, m, _ => rfl
  | j + 1, hj, m, hm => by
    have ih := o_held ht j (by omega) m hm
    rw [fl]
    have e : hx P t (j + 1) = hx P t j ^^^ hbit (P t j) := rfl
    rw [e, Nat.testBit_xor, hbit_bit]
    by_cases hk : kp l (P t j) = true
    · rw [if_pos hk]
      have e2 : hx (oP l L P) t (fl l P t j + 1) = hx (oP l L P) t (fl l P t j) ^^^ hbit (oP l L P t (fl l P t j)) := rfl
      have e3 : oP l L P t (fl l P t j) = P t j := by
        unfold oP
        rw [if_pos ht, fp_st t (i := j + 1) (j := L t) hj (by rw [fl, if_pos hk]; omega), fp, if_pos ⟨rfl, hk⟩]
      rw [e2, Nat.testBit_xor, ih, e3, hbit_bit]
    · rw [if_neg hk, Nat.add_zero, ih]
      have : (decide (2 ≤ P t j / 4) && decide (P t j % 4 = m)) = false := by
        unfold kp at hk
        simp at hk
        simp
        intro _
        omega
      rw [this, Bool.xor_false]
theorem o_wl (hE : WE L P) {t : Nat} (ht : t < 4) : ∀ j, j ≤ L t → wl (oP l L P) t (fl l P t j) = true
  | 0, _ => rfl
  | j + 1, hj => by
    have ih := o_wl hE ht j (by omega)
    rw [fl]
    by_cases hk : kp l (P t j) = true
    · rw [if_pos hk, wl, ih, Bool.true_and]
      have e3 : oP l L P t (fl l P t j) = P t j := by
        unfold oP
        rw [if_pos ht, fp_st t (i := j + 1) (j := L t) hj (by rw [fl, if_pos hk]; omega), fp, if_pos ⟨rfl, hk⟩]
      have hw := wl_wk (hE t ht) (show j < L t by omega)
      unfold wk at hw ⊢
      rw [e3]
      by_cases h2 : P t j / 4 < 2
      · rw [if_neg (by omega), if_neg (by omega)]
      · have hm : P t j % 4 ≠ l := by
          unfold kp at hk
          simp at hk
          rcases hk with hk | hk
          · exact absurd hk h2
          · exact hk
        rw [o_held ht j (by omega) _ hm]
        exact hw
    · rw [if_neg hk, Nat.add_zero]
      exact ih
theorem oE (hE : WE L P) : WE (oL l L P) (oP l L P) := fun t ht => by
  unfold oL
  rw [if_pos ht]
  exact o_wl hE ht (L t) (Nat.le_refl _)
/-! the class copies without it -/
theorem v_pappend {w : Wd} {k t n c : Nat} (ht : t < 4) (hl : w.1 12 k t = nI n) (hn : n < 6) : f_X2_append k (nI t) (nI c) w = some (wI (wI w 11 k (t * 6 + n) (nI c)) 12 k t (nI (n + 1))) := by
  rw [e_X2_append]
  simp (disch := omega) only [jl, jchk, jcl, hl, jle, jmul, nI_add]
  rw [if_neg (by omega)]
  have e : (wI w 11 k (t * 6 + n) (nI c)).1 12 k t = nI n := by
    rw [jw1, if_neg (by omega)]
    exact hl
  rw [e, nI_add]
theorem SPg_11 (k : Nat) : SPg k 11 k = true := by unfold SPg S2; rw [S1_self]; rfl
theorem SPg_12 (k : Nat) : SPg k 12 k = true := by unfold SPg S2; rw [S1_self, Bool.or_true]
/-- the draft, as far as it is filled -/
def DR (w : Wd) (l : Nat) (P : Nat → Nat → Nat) (t : Nat) (L : Nat → Nat) : Prop := ∀ u, u < t → w.1 12 9 u = nI (fl l P u (L u)) ∧ ∀ s, s < fl l P u (L u) → w.1 11 9 (u * 6 + s) = nI (fp l P u (L u) s)
theorem v_wo_in (hW : WP L P) (hl : l < 4) {t : Nat} (ht : t < 4) : ∀ (n j : Nat) (w : Wd), n + j = L t → RP w 0 L P → DR w l P t L → w.1 12 9 t = nI (fl l P t j) → (∀ s, s < fl l P t j → w.1 11 9 (t * 6 + s) = nI (fp l P t j s)) →
    ∃ w', x_X2_copyWithoutLock 17 [] [some (zr 2 9), some (zr 2 0), some (zi (nI l)), some (zi (nI t)), some (zi (nI j)), none] w = x_X2_copyWithoutLock 2 [] [some (zr 2 9), some (zr 2 0), some (zi (nI l)), some (zi (nI (t + 1))), none, none] w' ∧ Fr (SPg 9) w w' ∧ DR w' l P (t + 1) L := by
  have hL := (hW t ht).1
  intro n
  induction n with
  | zero =>
    intro j w hj hR hD h12 h11
    refine ⟨w, ?_, Fr.rf, fun u hu => ?_⟩
    · rw [e_X2_copyWithoutLock_17, v_lengthOf hR ht]
      simp (disch := omega) only [joc, jle, jl, nI_add]
      rw [if_pos (by omega)]
    · by_cases e : u = t
      · rw [e, show L t = j by omega]
        exact ⟨h12, h11⟩
      · exact hD u (by omega)
  | succ n ih =>
    intro j w hj hR hD h12 h11
    have hjL : j < L t := by omega
    have hP := (hW t ht).2 j hjL
    have hfl := fl_le (l := l) (P := P) t j
    have e1 : fl l P t (j + 1) = fl l P t j + if kp l (P t j) = true then 1 else 0 := rfl
    have skip : kp l (P t j) = false → ∃ w', x_X2_copyWithoutLock 17 [] [some (zr 2 9), some (zr 2 0), some (zi (nI l)), some (zi (nI t)), some (zi (nI (j + 1))), none] w = x_X2_copyWithoutLock 2 [] [some (zr 2 9), some (zr 2 0), some (zi (nI l)), some (zi (nI (t + 1))), none, none] w' ∧ Fr (SPg 9) w w' ∧ DR w' l P (t + 1) L := fun hk => by
      rw [if_neg (by rw [hk]; decide), Nat.add_zero] at e1
      refine ih (j + 1) w (by omega) hR hD (by rw [e1]; exact h12) (fun s hs => ?_)
      rw [fp, if_neg (fun z => by rw [hk] at z; cases z.2)]
      exact h11 s (by omega)
    rw [e_X2_copyWithoutLock_17, v_lengthOf hR ht]
    simp (disch := omega) only [joc, jle, jl, nI_add, v_stepOf hR hW ht hjL, v_codeOf, jeq]
    rw [if_neg (by omega)]
    by_cases h8 : P t j = 4 * 2 + l
    · rw [if_pos h8]
      exact skip (by unfold kp; rw [h8]; simp; omega)
    · rw [if_neg h8]
      by_cases h12' : P t j = 4 * 3 + l
      · rw [if_pos h12']
        exact skip (by unfold kp; rw [h12']; simp; omega)
      · rw [if_neg h12']
        have hk : kp l (P t j) = true := by
          unfold kp
          by_cases h2 : P t j / 4 < 2
          · simp [h2]
          · have : ¬ P t j % 4 = l := by omega
            simp [this]
        rw [if_pos hk] at e1
        rw [v_pappend ht h12 (by omega), joc]
        have f1 : Fr (SPg 9) w (wI (wI w 11 9 (t * 6 + fl l P t j) (nI (P t j))) 12 9 t (nI (fl l P t j + 1))) := (Fr.rf.wI (SPg_11 9)).wI (SPg_12 9)
        obtain ⟨w', h1, h2, h3⟩ := ih (j + 1) _ (by omega) (f1.RP rfl rfl hR) (fun u hu => by
          have hflu := fl_le (l := l) (P := P) u (L u)
          have hLu := (hW u (by omega)).1
          refine ⟨?_, fun s hs => ?_⟩
          · rw [jw1, if_neg (by omega), jw1, if_neg (by omega)]
            exact (hD u hu).1
          · rw [jw1, if_neg (by omega), jw1, if_neg (by omega)]
            exact (hD u hu).2 s hs) (by rw [jw1, if_pos ⟨rfl, rfl, rfl⟩, e1]) (fun s hs => by
          rw [jw1, if_neg (by omega), jw1, fp]
          by_cases e : s = fl l P t j
          · rw [if_pos ⟨rfl, rfl, by rw [e]⟩, if_pos ⟨e, hk⟩]
          · rw [if_neg (by omega), if_neg (fun z => e z.1)]
            exact h11 s (by omega))
        exact ⟨w', h1, f1.tr h2, h3⟩
theorem v_wo_out (hW : WP L P) (hl : l < 4) : ∀ (n t : Nat) (w : Wd), n + t = 4 → RP w 0 L P → DR w l P t L →
    ∃ w', x_X2_copyWithoutLock 2 [] [some (zr 2 9), some (zr 2 0), some (zi (nI l)), some (zi (nI t)), none, none] w = some w' ∧ Fr (SPg 9) w w' ∧ DR w' l P 4 L := by
  intro n
  induction n with
  | zero =>
    intro t w ht hR hD
    have : t = 4 := by omega
    subst this
    refine ⟨w, ?_, Fr.rf, hD⟩
    rw [e_X2_copyWithoutLock_2]
    simp (disch := omega) only [jl, jle]
    rw [if_pos (by omega)]
  | succ n ih =>
    intro t w ht hR hD
    have f0 : Fr (SPg 9) w (wI w 12 9 t (nI 0)) := Fr.rf.wI (SPg_12 9)
    obtain ⟨w1, a1, a2, a3⟩ := v_wo_in hW hl (t := t) (by omega) (L t) 0 (wI w 12 9 t (nI 0)) rfl (f0.RP rfl rfl hR) (fun u hu => by
      refine ⟨?_, fun s hs => ?_⟩
      · rw [jw1, if_neg (by omega)]
        exact (hD u hu).1
      · rw [jw1, if_neg (by omega)]
        exact (hD u hu).2 s hs) (by rw [jw1, if_pos ⟨rfl, rfl, rfl⟩]; rfl) (fun s hs => by cases hs)
    obtain ⟨w', h1, h2, h3⟩ := ih (t + 1) w1 (by omega) ((f0.tr a2).RP rfl rfl hR) a3
    refine ⟨w', ?_, (f0.tr a2).tr h2, h3⟩
    rw [← h1, ← a1, e_X2_copyWithoutLock_2]
    simp (disch := omega) only [jl, jle, jchk, jcl]
    rw [if_neg (by omega)]
theorem v_copyWithout (hW : WP L P) (hl : l < 4) {w : Wd} (hR : RP w 0 L P) : ∃ w', f_X2_copyWithoutLock 9 0 (nI l) w = some w' ∧ Fr (SPg 9) w w' ∧ RP w' 9 (oL l L P) (oP l L P) := by
  obtain ⟨w', h1, h2, h3⟩ := v_wo_out hW hl 4 0 w rfl hR (fun u hu => by omega)
  refine ⟨w', by rw [e_X2_copyWithoutLock]; exact h1, h2, fun t ht => ?_, fun t s ht hs => ?_⟩
  · unfold oL
    rw [if_pos ht]
    exact (h3 t ht).1
  · unfold oL at hs
    unfold oP
    rw [if_pos ht] at hs ⊢
    exact (h3 t ht).2 s hs
end WO
