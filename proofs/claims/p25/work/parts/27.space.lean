/-! THE CLASS'S STANDS: held locks, who can go, exploring. -/
def S1 (a b t i : Nat) : Bool := Nat.beq t a && Nat.beq i b
theorem S1_self (a b : Nat) : S1 a b a b = true := by unfold S1; rw [Nat.beq_refl, Nat.beq_refl]; rfl
theorem S1_no {a b t i : Nat} (h : ¬ (t = a ∧ i = b)) : S1 a b t i = false := by
  unfold S1
  cases h1 : Nat.beq t a with
  | false => rfl
  | true =>
    cases h2 : Nat.beq i b with
    | false => rfl
    | true => exact absurd ⟨Nat.eq_of_beq_eq_true h1, Nat.eq_of_beq_eq_true h2⟩ h
/-- outside the rows, and of the four threads, nothing is said: zero -/
def CN (L : Nat → Nat) (P : Nat → Nat → Nat) : Prop := (∀ t, 4 ≤ t → L t = 0) ∧ ∀ t s, (4 ≤ t ∨ L t ≤ s) → P t s = 0
theorem v_fillI {k : Nat} {x : Int32} {len : Nat} (hl : (if k = 0 then 4 else 4096) = len) : ∀ (n j : Nat) (w : Wd), n + j = len →
    ∃ w', x_J7_fill_53178 5 [] [some (zr 14 k), some (zi x), some (zi (nI j)), some (zi (nI len))] w = some w' ∧ Fr (S1 14 k) w w' ∧ (∀ i, j ≤ i → i < len → w'.1 14 k i = x) ∧ ∀ i, i < j → w'.1 14 k i = w.1 14 k i := by
  have h4 : len ≤ 4096 := by rw [← hl]; split <;> decide
  intro n
  induction n with
  | zero =>
    intro j w hj
    refine ⟨w, ?_, Fr.rf, fun i h1 h2 => by omega, fun _ _ => rfl⟩
    rw [e_J7_fill_53178_5]
    simp (disch := omega) only [jle]
    rw [if_pos (by omega)]
  | succ n ih =>
    intro j w hj
    obtain ⟨w', h1, h2, h3, h5⟩ := ih (j + 1) (wI w 14 k j x) (by omega)
    refine ⟨w', ?_, (Fr.rf.wI (S1_self 14 k)).tr h2, fun i g1 g2 => ?_, fun i g1 => ?_⟩
    · rw [← h1, e_J7_fill_53178_5, hl]
      simp (disch := omega) only [jle, jchk, jcl, jl, nI_add]
      rw [if_neg (by omega)]
    · by_cases e : i = j
      · rw [e, h5 j (by omega), jw1, if_pos ⟨rfl, rfl, rfl⟩]
      · exact h3 i (by omega) g2
    · rw [h5 i (by omega), jw1, if_neg (by omega)]
theorem v_fill_I {k : Nat} {len : Nat} (hl : (if k = 0 then 4 else 4096) = len) (x : Int32) (w : Wd) : ∃ w', f_J7_fill_53178 k x w = some w' ∧ Fr (S1 14 k) w w' ∧ ∀ i, i < len → w'.1 14 k i = x := by
  obtain ⟨w', h1, h2, h3, -⟩ := v_fillI (x := x) hl len 0 w rfl
  refine ⟨w', ?_, h2, fun i hi => h3 i (Nat.zero_le _) hi⟩
  rw [e_J7_fill_53178, hl]
  exact h1
theorem v_fillJ {k : Nat} {x : Int64} {len : Nat} (hl : (if k = 2 then 65536 else 4096) = len) : ∀ (n j : Nat) (w : Wd), n + j = len →
    ∃ w', x_J7_fill_d0a16 6 [] [some (zr 17 k), some (zl x), none, some (zi (nI j)), some (zi (nI len))] w = some w' ∧ Fr (S1 17 k) w w' ∧ (∀ i, j ≤ i → i < len → w'.2 17 k i = x) ∧ ∀ i, i < j → w'.2 17 k i = w.2 17 k i := by
  have h4 : len ≤ 65536 := by rw [← hl]; split <;> decide
  intro n
  induction n with
  | zero =>
    intro j w hj
    refine ⟨w, ?_, Fr.rf, fun i h1 h2 => by omega, fun _ _ => rfl⟩
    rw [e_J7_fill_d0a16_6]
    simp (disch := omega) only [jle]
    rw [if_pos (by omega)]
  | succ n ih =>
    intro j w hj
    obtain ⟨w', h1, h2, h3, h5⟩ := ih (j + 1) (wL w 17 k j x) (by omega)
    refine ⟨w', ?_, (Fr.rf.wL (S1_self 17 k)).tr h2, fun i g1 g2 => ?_, fun i g1 => ?_⟩
    · rw [← h1, e_J7_fill_d0a16_6, hl]
      simp (disch := omega) only [jle, jchk, jcl, jl, nI_add]
      rw [if_neg (by omega)]
    · by_cases e : i = j
      · rw [e, h5 j (by omega), jl2, if_pos ⟨rfl, rfl, rfl⟩]
      · exact h3 i (by omega) g2
    · rw [h5 i (by omega), jl2, if_neg (by omega)]
theorem v_fill_J {k : Nat} {len : Nat} (hl : (if k = 2 then 65536 else 4096) = len) (x : Int64) (w : Wd) : ∃ w', f_J7_fill_d0a16 k x w = some w' ∧ Fr (S1 17 k) w w' ∧ ∀ i, i < len → w'.2 17 k i = x := by
  obtain ⟨w', h1, h2, h3, -⟩ := v_fillJ (x := x) hl len 0 w rfl
  refine ⟨w', ?_, h2, fun i hi => h3 i (Nat.zero_le _) hi⟩
  rw [e_J7_fill_d0a16, hl]
  exact h1
/-- held locks, as the class notes them -/
def HC (w : Wd) (L : Nat → Nat) (P : Nat → Nat → Nat) : Prop := ∀ t, t < 4 → ∀ d, d < 8 → w.1 18 0 (t * 8 + d) = nI (hx P t (min d (L t)))
theorem v_note_in {L : Nat → Nat} {P : Nat → Nat → Nat} (hW : WP L P) (hE : WE L P) {t : Nat} (ht : t < 4) : ∀ (n d : Nat) (w : Wd), n + d = 8 → RP w 10 L P →
    ∃ w', x_X5_noteHeldLocks 9 [] [some (zr 5 0), some (zi (nI t)), some (zi (nI d))] w = x_X5_noteHeldLocks 2 [] [some (zr 5 0), some (zi (nI (t + 1))), none] w' ∧ Fr (S1 18 0) w w' ∧ (∀ j, d ≤ j → j < 8 → w'.1 18 0 (t * 8 + j) = nI (hx P t (min j (L t)))) ∧ ∀ j, (j < t * 8 + d ∨ t * 8 + 8 ≤ j) → w'.1 18 0 j = w.1 18 0 j := by
  intro n
  induction n with
  | zero =>
    intro d w hd hR
    refine ⟨w, ?_, Fr.rf, fun j h1 h2 => by omega, fun _ _ => rfl⟩
    rw [e_X5_noteHeldLocks_9]
    simp (disch := omega) only [jl, jle, nI_add]
    rw [if_pos (by omega)]
  | succ n ih =>
    intro d w hd hR
    have hh := v_heldAfter hR hW ht (d := d) (by omega) (wl_le (hE t ht) (Nat.min_le_right _ _))
    obtain ⟨w', h1, h2, h3, h4⟩ := ih (d + 1) (wI w 18 0 (t * 8 + d) (nI (hx P t (min d (L t))))) (by omega) ((Fr.rf.wI (S1_self 18 0)).RP rfl rfl hR)
    refine ⟨w', ?_, (Fr.rf.wI (S1_self 18 0)).tr h2, fun j g1 g2 => ?_, fun j g => ?_⟩
    · rw [← h1, e_X5_noteHeldLocks_9]
      simp (disch := omega) only [jl, jle, hh, joc, jmul, nI_add, jchk, jcl]
      rw [if_neg (by omega)]
    · by_cases e : j = d
      · rw [e, h4 _ (by omega), jw1, if_pos ⟨rfl, rfl, rfl⟩]
      · exact h3 j (by omega) g2
    · rw [h4 j (by omega), jw1, if_neg (by omega)]
theorem v_note_out {L : Nat → Nat} {P : Nat → Nat → Nat} (hW : WP L P) (hE : WE L P) : ∀ (n t : Nat) (w : Wd), n + t = 4 → RP w 10 L P → (∀ u, u < t → ∀ d, d < 8 → w.1 18 0 (u * 8 + d) = nI (hx P u (min d (L u)))) →
    ∃ w', x_X5_noteHeldLocks 2 [] [some (zr 5 0), some (zi (nI t)), none] w = some w' ∧ Fr (S1 18 0) w w' ∧ HC w' L P := by
  intro n
  induction n with
  | zero =>
    intro t w ht hR hI
    refine ⟨w, ?_, Fr.rf, fun u hu => hI u (by omega)⟩
    rw [e_X5_noteHeldLocks_2]
    simp (disch := omega) only [jl, jle]
    rw [if_pos (by omega)]
  | succ n ih =>
    intro t w ht hR hI
    obtain ⟨w', h1, h2, h3, h4⟩ := v_note_in hW hE (t := t) (by omega) 8 0 w rfl hR
    obtain ⟨w2, g1, g2, g3⟩ := ih (t + 1) w' (by omega) (h2.RP rfl rfl hR) (fun u hu d hd => by
      by_cases e : u = t
      · rw [e]; exact h3 d (Nat.zero_le _) hd
      · rw [h4 _ (by omega)]
        exact hI u (by omega) d hd)
    refine ⟨w2, ?_, h2.tr g2, g3⟩
    rw [← g1, ← h1, e_X5_noteHeldLocks_2]
    simp (disch := omega) only [jl, jle]
    rw [if_neg (by omega)]
theorem v_noteHeldLocks {L : Nat → Nat} {P : Nat → Nat → Nat} (hW : WP L P) (hE : WE L P) {w : Wd} (hR : RP w 10 L P) : ∃ w', f_X5_noteHeldLocks 0 w = some w' ∧ Fr (S1 18 0) w w' ∧ HC w' L P := by
  obtain ⟨w', h1, h2, h3⟩ := v_note_out hW hE 4 0 w rfl hR (fun u hu => by omega)
  exact ⟨w', by rw [e_X5_noteHeldLocks]; exact h1, h2, h3⟩
section SP
variable {w : Wd} {L : Nat → Nat} {P : Nat → Nat → Nat}
theorem v_heldLocks (hH : HC w L P) {c : Nat} (hc : c < 4096) : f_X5_heldLocks 0 (nI c) w = some (nI (or4 fun u => hx P u (min (d8 c u) (L u))), w) := by
  have st : ∀ t a, t < 4 → x_X5_heldLocks 4 [] [some (zr 5 0), some (zi (nI c)), some (zi (nI a)), some (zi (nI t))] w = x_X5_heldLocks 4 [] [some (zr 5 0), some (zi (nI c)), some (zi (nI (a ||| hx P t (min (d8 c t) (L t))))), some (zi (nI (t + 1)))] w := fun t a ht => by
    have hd := d8_lt c t
    rw [e_X5_heldLocks_4]
    simp (disch := omega) only [jl, jle, v_doneBy, joc, jmul, nI_add, jchk, jcl, hH t ht _ hd, jor]
    rw [if_neg (by omega)]
  rw [e_X5_heldLocks]
  simp only [jl]
  rw [st 0 0 (by decide), st 1 _ (by decide), st 2 _ (by decide), st 3 _ (by decide), e_X5_heldLocks_4]
  simp (disch := omega) only [jl, jle, Nat.reduceLeDiff, Nat.reduceAdd, ↓reduceIte, Nat.zero_or]
  rfl
theorem v_nextStep (hR : RP w 10 L P) (hW : WP L P) {c t : Nat} (hc : c < 4096) (ht : t < 4) (h : d8 c t < L t) : f_X5_nextStep 0 (nI c) (nI t) w = some (nI (P t (d8 c t)), w) := by
  rw [e_X5_nextStep, v_doneBy hc ht, joc, v_stepOf hR hW ht h, joc]
theorem v_nextStep_no (hR : RP w 10 L P) (hW : WP L P) {c t : Nat} (hc : c < 4096) (ht : t < 4) (h : L t ≤ d8 c t) : f_X5_nextStep 0 (nI c) (nI t) w = some (Int32.ofInt (-1), w) := by
  have hd := d8_lt c t
  rw [e_X5_nextStep, v_doneBy hc ht, joc, v_stepOf_no hR hW ht h (by omega), joc]
/-- a set of threads -/
def msk (γ : Nat → Bool) : Nat := or4 fun t => if γ t then 2 ^ t else 0
theorem msk_def (γ : Nat → Bool) : msk γ = (((if γ 0 = true then 1 else 0) ||| (if γ 1 = true then 2 else 0)) ||| (if γ 2 = true then 4 else 0)) ||| (if γ 3 = true then 8 else 0) := rfl
theorem msk_lt (γ : Nat → Bool) : msk γ < 16 := by
  rw [msk_def]
  cases γ 0 <;> cases γ 1 <;> cases γ 2 <;> cases γ 3 <;> decide
theorem msk_bit (γ : Nat → Bool) {t : Nat} (ht : t < 4) : (msk γ).testBit t = γ t := by
  rw [msk_def]
  rcases four ht with rfl | rfl | rfl | rfl <;> cases γ 0 <;> cases γ 1 <;> cases γ 2 <;> cases γ 3 <;> decide
theorem msk_0 (γ : Nat → Bool) : (msk γ = 0) = (γ 0 = false ∧ γ 1 = false ∧ γ 2 = false ∧ γ 3 = false) := by
  rw [msk_def]
  cases γ 0 <;> cases γ 1 <;> cases γ 2 <;> cases γ 3 <;> simp <;> decide
theorem or4_bit (f : Nat → Nat) (m : Nat) : (or4 f).testBit m = ((f 0).testBit m || (f 1).testBit m || (f 2).testBit m || (f 3).testBit m) := by
  unfold or4
  rw [Nat.testBit_or, Nat.testBit_or, Nat.testBit_or]
/-- programs that are well lock none that they hold: the thread's own locks don't matter -/
theorem or4_own (hE : WE L P) {s : Nat → Nat} {t : Nat} (ht : t < 4) (hs : s t < L t) (h2 : P t (s t) / 4 = 2) :
    (or4 fun u => hx P u (s u)).testBit (P t (s t) % 4) = (or4 fun u => if u = t then 0 else hx P u (s u)).testBit (P t (s t) % 4) := by
  have hk := wl_wk (hE t ht) hs
  unfold wk at hk
  rw [if_pos h2] at hk
  have hk : (hx P t (s t)).testBit (P t (s t) % 4) = false := by simpa using hk
  rw [or4_bit, or4_bit]
  rcases four ht with rfl | rfl | rfl | rfl <;> simp [hk]
theorem v_threads (hR : RP w 10 L P) (hW : WP L P) (hE : WE L P) (hH : HC w L P) {c : Nat} (hc : c < 4096) (hv : ∀ u, u < 4 → d8 c u ≤ L u) : f_X5_threadsThatCanGo 0 (nI c) w = some (nI (msk (goS L P (d8 c))), w) := by
  have eh : (or4 fun u => hx P u (min (d8 c u) (L u))) = or4 fun u => hx P u (d8 c u) := by
    unfold or4
    have key : ∀ u, u < 4 → hx P u (min (d8 c u) (L u)) = hx P u (d8 c u) := fun u hu => by
      rw [show min (d8 c u) (L u) = d8 c u from Nat.min_eq_left (hv u hu)]
    simp only [key 0 (by decide), key 1 (by decide), key 2 (by decide), key 3 (by decide)]
  have h16 : (or4 fun u => hx P u (d8 c u)) < 16 := or4_lt fun u => hx_lt P u _
  have st : ∀ t a, t < 4 → x_X5_threadsThatCanGo 11 [] [some (zr 5 0), some (zi (nI c)), some (zi (nI (or4 fun u => hx P u (d8 c u)))), some (zi (nI a)), some (zi (nI t)), none, none] w = x_X5_threadsThatCanGo 11 [] [some (zr 5 0), some (zi (nI c)), some (zi (nI (or4 fun u => hx P u (d8 c u)))), some (zi (nI (a ||| if goS L P (d8 c) t then 2 ^ t else 0))), some (zi (nI (t + 1))), none, none] w := fun t a ht => by
    have hd := d8_lt c t
    rw [e_X5_threadsThatCanGo_11]
    simp (disch := omega) only [jl, jle]
    rw [if_neg (by omega)]
    by_cases hs : d8 c t < L t
    · have hP := (hW t ht).2 _ hs
      have hm : P t (d8 c t) % 4 < 4 := Nat.mod_lt _ (by decide)
      rw [v_nextStep hR hW hc ht hs]
      simp (disch := omega) only [joc, v_kindOf, jl, jeq, v_nameOf, v_isIn, j01, e_X5_threadsThatCanGo_52, jm1, ↓reduceIte, jeq0, v_setOf, jor, nI_add, Nat.reduceEqDiff]
      by_cases h2 : P t (d8 c t) / 4 = 2
      · rw [if_pos h2, or4_own hE ht hs h2]
        have e : goS L P (d8 c) t = !(or4 fun u => if u = t then 0 else hx P u (d8 c u)).testBit (P t (d8 c t) % 4) := by
          unfold goS
          simp [hs, h2]
        rw [e]
        cases (or4 fun u => if u = t then 0 else hx P u (d8 c u)).testBit (P t (d8 c t) % 4) <;> simp
      · rw [if_neg h2]
        have e : goS L P (d8 c) t = true := by
          unfold goS
          simp [hs, h2]
        rw [e, if_pos rfl]
    · rw [v_nextStep_no hR hW hc ht (by omega)]
      have e : goS L P (d8 c) t = false := by
        unfold goS
        simp [hs]
      simp (disch := omega) only [joc, v_kindOf_m1, jl, jn1, ↓reduceIte, e_X5_threadsThatCanGo_52, nI_add]
      rw [e]
      simp
  rw [e_X5_threadsThatCanGo, v_heldLocks hH hc, eh, joc]
  simp only [jl]
  rw [st 0 0 (by decide), st 1 _ (by decide), st 2 _ (by decide), st 3 _ (by decide), e_X5_threadsThatCanGo_11]
  simp (disch := omega) only [jl, jle, Nat.reduceLeDiff, Nat.reduceAdd, ↓reduceIte, Nat.zero_or]
  rfl
theorem v_unfinished (hR : RP w 10 L P) (hW : WP L P) {c : Nat} (hc : c < 4096) : f_X5_unfinishedThreads 0 (nI c) w = some (nI (msk fun t => decide (d8 c t < L t)), w) := by
  have st : ∀ t a, t < 4 → x_X5_unfinishedThreads 4 [] [some (zr 5 0), some (zi (nI c)), some (zi (nI a)), some (zi (nI t))] w = x_X5_unfinishedThreads 4 [] [some (zr 5 0), some (zi (nI c)), some (zi (nI (a ||| if decide (d8 c t < L t) = true then 2 ^ t else 0))), some (zi (nI (t + 1)))] w := fun t a ht => by
    have hd := d8_lt c t
    rw [e_X5_unfinishedThreads_4]
    simp (disch := omega) only [jl, jle]
    rw [if_neg (by omega)]
    by_cases hs : d8 c t < L t
    · have hP := (hW t ht).2 _ hs
      rw [v_nextStep hR hW hc ht hs]
      simp (disch := omega) only [joc, jm1, ↓reduceIte, v_setOf, jor, nI_add, decide_eq_true_eq, hs]
    · rw [v_nextStep_no hR hW hc ht (by omega)]
      simp (disch := omega) only [joc, ↓reduceIte, nI_add, decide_eq_true_eq, hs, Nat.or_zero]
  rw [e_X5_unfinishedThreads]
  simp only [jl]
  rw [st 0 0 (by decide), st 1 _ (by decide), st 2 _ (by decide), st 3 _ (by decide), e_X5_unfinishedThreads_4]
  simp (disch := omega) only [jl, jle, Nat.reduceLeDiff, Nat.reduceAdd, ↓reduceIte, Nat.zero_or]
  rfl
theorem msk_nx (s : Nat → Nat) : (msk (fun t => decide (s t < L t)) = 0) = (nxS L s = false) := by
  rw [msk_0]
  unfold nxS
  by_cases h0 : s 0 < L 0 <;> by_cases h1 : s 1 < L 1 <;> by_cases h2 : s 2 < L 2 <;> by_cases h3 : s 3 < L 3 <;> simp [h0, h1, h2, h3]
theorem msk_end (s : Nat → Nat) : (msk (goS L P s) = 0) = (endS L P s = true) := by
  rw [msk_0]
  unfold endS
  cases goS L P s 0 <;> cases goS L P s 1 <;> cases goS L P s 2 <;> cases goS L P s 3 <;> simp
theorem lcmp0 {a : Nat} (ha : a < 9223372036854775808) : (lg_cmp (lN a) (lN 0) = (0 : Int32)) = (a = 0) := by
  rw [lg_cmp_eq]
  exact propext (pk_lEQ ha (by decide))
theorem lcmpP {a : Nat} (ha : a < 9223372036854775808) : (lg_cmp (lN a) (lN 0) ≤ (0 : Int32)) = (a = 0) := by
  rw [lg_cmp_le]
  rw [propext (pk_lLE ha (show 0 < 2 ^ 63 by decide))]
  exact propext ⟨fun h => by omega, fun h => by omega⟩
theorem v_isReachable {c : Nat} (hc : c < 4096) {F : Nat} (hF : w.2 17 1 c = lN F) (hs : F < 9223372036854775808) : f_X5_isReachable 0 (nI c) w = some (nI (if (!decide (F = 0)) = true then 1 else 0), w) := by
  rw [e_X5_isReachable]
  simp (disch := omega) only [jchk, jcl, hF, jlL, lcmp0, jl, jzb0, jzb1]
  by_cases h : F = 0
  · rw [if_pos h]; simp [h]
  · rw [if_neg h]; simp [h]
end SP
