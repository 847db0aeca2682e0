/-! SLEEP SETS: the class. -/
section S8
variable {L : Nat → Nat} {P : Nat → Nat → Nat}
theorem and_no : ∀ a : Nat, a < 16 → ∀ q : Nat, q < 16 → nI a &&& (nI q ^^^ Int32.ofInt (-1)) = nI (a &&& (15 ^^^ q)) := by decide +kernel
theorem and_no_bit : ∀ a : Nat, a < 16 → ∀ q : Nat, q < 16 → ∀ t : Nat, t < 4 → (a &&& (15 ^^^ q)).testBit t = (a.testBit t && !q.testBit t) := by decide +kernel
theorem and_no_0 : ∀ a : Nat, a < 16 → ∀ q : Nat, q < 16 → (a &&& (15 ^^^ q) = 0 ↔ (a.testBit 0 && !q.testBit 0) = false ∧ (a.testBit 1 && !q.testBit 1) = false ∧ (a.testBit 2 && !q.testBit 2) = false ∧ (a.testBit 3 && !q.testBit 3) = false) := by decide +kernel
theorem P_lt (hW : WP L P) {t s : Nat} (ht : t < 4) (hs : s < L t) : P t s < 16 := (hW t ht).2 s hs
theorem v_still {w : Wd} (hW : WP L P) (hX : SPX w L P) {c t r : Nat} (hc : c < 4096) (ht : t < 4) (hd : d8 c t < L t) (hr : r < 16) (hs : ∀ u, u < 4 → r.testBit u = true → d8 c u < L u) :
    f_X5_stillAsleep 0 (nI c) (nI t) (nI r) w = some (nI (msk fun u => r.testBit u && cm (P u (d8 c u)) (P t (d8 c t))), w) := by
  have st : ∀ u a, u < 4 → x_X5_stillAsleep 14 [] [some (zr 5 0), some (zi (nI c)), none, some (zi (nI r)), some (zi (nI (P t (d8 c t)))), some (zi (nI a)), some (zi (nI u))] w = x_X5_stillAsleep 14 [] [some (zr 5 0), some (zi (nI c)), none, some (zi (nI r)), some (zi (nI (P t (d8 c t)))), some (zi (nI (a ||| if (r.testBit u && cm (P u (d8 c u)) (P t (d8 c t))) = true then 2 ^ u else 0))), some (zi (nI (u + 1)))] w := fun u a hu => by
    rw [e_X5_stillAsleep_14]
    simp (disch := omega) only [jl, jle, v_isIn, joc, j01, nI_add]
    rw [if_neg (by omega)]
    cases hb : r.testBit u with
    | false => simp
    | true =>
      have hdu := hs u hu hb
      rw [v_nextStep hX.1 hW hc hu hdu]
      simp (disch := omega) only [joc, v_commute (P_lt hW hu hdu) (P_lt hW ht hd), j01, v_setOf, jor, Bool.true_and]
      cases cm (P u (d8 c u)) (P t (d8 c t)) <;> simp
  rw [e_X5_stillAsleep, v_nextStep hX.1 hW hc ht hd, joc]
  simp only [jl]
  rw [st 0 0 (by decide), st 1 _ (by decide), st 2 _ (by decide), st 3 _ (by decide), e_X5_stillAsleep_14]
  simp (disch := omega) only [jl, jle, Nat.reduceLeDiff, Nat.reduceAdd, ↓reduceIte, Nat.zero_or]
  rfl
/-- the class's count of what is come to, laid as the reference numbers -/
def TA (w : Wd) (A : Nat → Nat → Nat) : Prop := ∀ n q, n < 2401 → q < 16 → w.2 17 2 (eN n * 16 + q) = lN (A n q)
def S17 : Nat → Nat → Bool := S1 17 2
theorem SPX_fr {S : Nat → Nat → Bool} {w w' : Wd} (hf : Fr S w w') (h1 : S 11 10 = false) (h2 : S 12 10 = false) (h3 : S 18 0 = false) (h4 : S 17 1 = false) (h5 : S 14 1 = false) (h6 : w'.1 5 0 1 = w.1 5 0 1) (hX : SPX w L P) : SPX w' L P :=
  ⟨hf.RP h1 h2 hX.1, fun t ht d hd => by rw [(hf 18 0 h3).1]; exact hX.2.1 t ht d hd, fun x hx => by rw [(hf 17 1 h4).2]; exact hX.2.2.1 x hx, fun x hx => by rw [(hf 14 1 h5).1]; exact hX.2.2.2.1 x hx, h6.trans hX.2.2.2.2⟩
theorem SPX_17 {w w' : Wd} (hf : Fr S17 w w') (hX : SPX w L P) : SPX w' L P := SPX_fr hf rfl rfl rfl rfl rfl (by rw [(hf 5 0 rfl).1]) hX
theorem eN_lt40 {n : Nat} (h : n < 2401) : eN n < 4096 := Nat.lt_trans (eN_lt h) (by decide)
theorem v_with_lp (hW : WP L P) {n q : Nat} (hn : n < 2401) (hq : q < 16) (hs : ∀ u, u < 4 → q.testBit u = true → d7 n u < L u) : ∀ (k t : Nat) (w : Wd) (A : Nat → Nat → Nat), k + t = 4 → SPX w L P → TA w A →
    ∃ w' A', x_X5_exploreWith 51 [] [some (zr 5 0), some (zi (nI (eN n))), some (zi (nI q)), some (zl (lN (A n q))), none, some (zi (nI (msk (goS L P (d7 n))))), some (zi (nI (sRs L P n q t))), some (zi (nI t)), none] w = some w' ∧ Fr S17 w w' ∧ w'.1 = w.1 ∧ TA w' A' ∧ (∀ B, aP L P n q t B = A → aP L P n q 4 B = A') := by
  have hE := eN_lt40 hn
  have hg16 := msk_lt (goS L P (d7 n))
  intro k
  induction k with
  | zero =>
    intro t w A ht hX hA
    refine ⟨w, A, ?_, Fr.rf, rfl, hA, fun B hB => ?_⟩
    · rw [e_X5_exploreWith_51]
      simp (disch := omega) only [jl, jle]
      rw [if_pos (by omega)]
    · rw [← hB, show t = 4 by omega]
  | succ k ih =>
    intro t w A ht hX hA
    have ht4 : t < 4 := by omega
    have hA' : msk (goS L P (d7 n)) &&& (15 ^^^ q) < 16 := Nat.lt_of_le_of_lt Nat.and_le_left hg16
    rw [e_X5_exploreWith_51]
    simp (disch := omega) only [jl, jle, and_no _ hg16 _ hq, v_isIn, joc, j01, nI_add, and_no_bit _ hg16 _ hq t ht4, msk_bit _ ht4]
    rw [if_neg (by omega)]
    by_cases hb : (go7 L P n t && !q.testBit t) = true
    · have hg : go7 L P n t = true := by
        rw [Bool.and_eq_true] at hb
        exact hb.1
      have hqt : q.testBit t = false := by
        rw [Bool.and_eq_true] at hb
        simpa using hb.2
      have hdt : d7 n t < L t := goS_lt hg
      have hL := (hW t ht4).1
      have hsucc := eN_succ hn ht4 (show d7 n t < 6 by omega)
      have hnx := (ds7.2.2.2 n t hn ht4 (by omega)).1
      have hE2 := eN_lt hnx
      have hst : (eN n + 2 ^ (9 - 3 * t)) % 4096 = eN (n + g7 t) := by
        rw [hsucc]
        show (eN n + g8 t) % 4096 = _
        exact Nat.mod_eq_of_lt (by omega)
      have hstill := v_still hW hX (c := eN n) (t := t) (r := sRs L P n q t) hE ht4 (by rw [eN_dig hn]; exact hdt) (sRs_lt hq t (by omega)) (fun u hu h => by rw [eN_dig hn]; exact sRs_nx hs (by omega) hu h)
      rw [eN_dig hn] at hstill
      have hN : sNx L P n q t < 16 := msk_lt _
      have hstill : f_X5_stillAsleep 0 (nI (eN n)) (nI t) (nI (sRs L P n q t)) w = some (nI (sNx L P n q t), w) := hstill
      have hgq : (goS L P (d7 n) t && !q.testBit t) = true := hb
      have hold := hA (n + g7 t) (sNx L P n q t) hnx hN
      have hbn : ∀ b : Bool, b = true → ¬ b = false := fun b h => by rw [h]; decide
      simp (disch := omega) only [hstill, joc, v_standAfter hE ht4, hst, jmul, nI_add, jchk, jcl, v_setOf, jor, hold, lN_add, hgq]
      rw [if_neg (by decide)]
      obtain ⟨w', A', h1, h2, h3, h4, h5⟩ := ih (t + 1) (wL w 17 2 (eN (n + g7 t) * 16 + sNx L P n q t) (lN (A (n + g7 t) (sNx L P n q t) + A n q))) (aT L P n q t A) (by omega) (SPX_17 (Fr.rf.wL (by decide)) hX) (fun m p hm hp => by
        rw [jl2]
        unfold aT
        by_cases e : m = n + g7 t ∧ p = sNx L P n q t
        · rw [if_pos ⟨rfl, rfl, by rw [e.1, e.2]⟩, if_pos ⟨e.1, e.2, hb⟩, e.1, e.2]
        · rw [if_neg (fun z => e (by
            have h3 := z.2.2
            have h4 : eN m = eN (n + g7 t) := by omega
            exact ⟨eN_inj h4, by omega⟩)), if_neg (fun z => e ⟨z.1, z.2.1⟩)]
          exact hA m p hm hp)
      rw [aT_n (Nat.le_refl n)] at h1
      have e1 : sRs L P n q (t + 1) = sRs L P n q t ||| 2 ^ t := by
        rw [sRs, if_pos hb]
      refine ⟨w', A', ?_, (Fr.rf.wL (by decide)).tr h2, h3, h4, fun B hB => h5 B ?_⟩
      · rw [← h1, e1]
      · rw [aP, hB]
    · have hbf : (go7 L P n t && !q.testBit t) = false := by
        cases h : (go7 L P n t && !q.testBit t) with
        | false => rfl
        | true => exact absurd h hb
      have hgq : (goS L P (d7 n) t && !q.testBit t) = false := hbf
      obtain ⟨w', A', h1, h2, h3, h4, h5⟩ := ih (t + 1) w A (by omega) hX hA
      have e1 : sRs L P n q (t + 1) = sRs L P n q t := by
        rw [sRs, if_neg hb]
      refine ⟨w', A', ?_, h2, h3, h4, fun B hB => h5 B ?_⟩
      · rw [← h1, e1]
        simp only [hgq, ↓reduceIte]
      · rw [aP, hB]
        funext x y
        unfold aT
        rw [if_neg (fun z => hb z.2.2)]
theorem anG_0 (n : Nat) : (anG L P n 4 = true) = ¬ (msk (goS L P (d7 n)) = 0) := by
  rw [msk_0]
  have e : anG L P n 4 = (((false || goS L P (d7 n) 0) || goS L P (d7 n) 1) || goS L P (d7 n) 2 || goS L P (d7 n) 3) := rfl
  rw [e]
  cases goS L P (d7 n) 0 <;> cases goS L P (d7 n) 1 <;> cases goS L P (d7 n) 2 <;> cases goS L P (d7 n) 3 <;> simp
theorem wnG_0 {n q : Nat} (hq : q < 16) : (wnG L P n q 4 = true) = ¬ (msk (goS L P (d7 n)) &&& (15 ^^^ q) = 0) := by
  rw [propext (and_no_0 _ (msk_lt _) _ hq), msk_bit _ (show 0 < 4 by decide), msk_bit _ (show 1 < 4 by decide), msk_bit _ (show 2 < 4 by decide), msk_bit _ (show 3 < 4 by decide)]
  have e : wnG L P n q 4 = (((false || (goS L P (d7 n) 0 && !q.testBit 0)) || (goS L P (d7 n) 1 && !q.testBit 1)) || (goS L P (d7 n) 2 && !q.testBit 2) || (goS L P (d7 n) 3 && !q.testBit 3)) := rfl
  rw [e]
  cases (goS L P (d7 n) 0 && !q.testBit 0) <;> cases (goS L P (d7 n) 1 && !q.testBit 1) <;> cases (goS L P (d7 n) 2 && !q.testBit 2) <;> cases (goS L P (d7 n) 3 && !q.testBit 3) <;> simp
def SWi : Nat → Nat → Bool := S2 S17 (S1 5 0)
/-- ends and cuts of the class -/
def TE (w : Wd) (E C : Nat) : Prop := w.2 5 0 7 = lN E ∧ w.2 5 0 8 = lN C
theorem v_exploreWith (hW : WP L P) {n q : Nat} (hn : n < 2401) (hr : W7 L P n ≠ 0) (hq : q < 16) (hs : ∀ u, u < 4 → q.testBit u = true → d7 n u < L u) {w : Wd} {S : (Nat → Nat → Nat) × Nat × Nat} (hX : SPX w L P) (hA : TA w S.1) (hE : TE w S.2.1 S.2.2) :
    ∃ w', f_X5_exploreWith 0 (nI (eN n)) (nI q) (lN (S.1 n q)) w = some w' ∧ Fr SWi w w' ∧ w'.1 = w.1 ∧ TA w' (aP L P n q 4 S.1) ∧ TE w' (S.2.1 + (if anG L P n 4 = true then 0 else S.1 n q)) (S.2.2 + if (anG L P n 4 && !wnG L P n q 4) = true then S.1 n q else 0) := by
  have hE4 := eN_lt40 hn
  have hg16 := msk_lt (goS L P (d7 n))
  have hA' : msk (goS L P (d7 n)) &&& (15 ^^^ q) < 16 := Nat.lt_of_le_of_lt Nat.and_le_left hg16
  have hgo := hX.2.2.2.1 (eN n) hE4
  rw [gG, W_eN hW n hn, if_neg hr, eN_dig hn] at hgo
  have fin : ∀ w1 : Wd, w1.1 = w.1 → Fr (S1 5 0) w w1 → TE w1 (S.2.1 + (if anG L P n 4 = true then 0 else S.1 n q)) (S.2.2 + if (anG L P n 4 && !wnG L P n q 4) = true then S.1 n q else 0) →
      ∃ w', x_X5_exploreWith 51 [] [some (zr 5 0), some (zi (nI (eN n))), some (zi (nI q)), some (zl (lN (S.1 n q))), none, some (zi (nI (msk (goS L P (d7 n))))), some (zi (nI q)), some (zi (nI 0)), none] w1 = some w' ∧ Fr SWi w w' ∧ w'.1 = w.1 ∧ TA w' (aP L P n q 4 S.1) ∧ TE w' (S.2.1 + (if anG L P n 4 = true then 0 else S.1 n q)) (S.2.2 + if (anG L P n 4 && !wnG L P n q 4) = true then S.1 n q else 0) := fun w1 e1 f1 hT => by
    obtain ⟨w', A', h1, h2, h3, h4, h5⟩ := v_with_lp hW hn hq hs 4 0 w1 S.1 rfl (SPX_fr f1 rfl rfl rfl rfl rfl (by rw [e1]) hX) (fun m p hm hp => by rw [(f1 17 2 rfl).2]; exact hA m p hm hp)
    have h6 := h5 S.1 rfl
    refine ⟨w', h1, (f1.mono fun t i h => S2_r h).tr (h2.mono fun t i h => S2_l h), h3.trans e1, by rw [h6]; exact h4, ?_⟩
    have e5 := (h2 5 0 rfl).2
    exact ⟨by rw [e5]; exact hT.1, by rw [e5]; exact hT.2⟩
  rw [e_X5_exploreWith]
  simp (disch := omega) only [jl, jchk, jcl, hgo, jeq0, and_no _ hg16 _ hq]
  by_cases h0 : msk (goS L P (d7 n)) = 0
  · rw [if_pos h0]
    have ha : ¬ anG L P n 4 = true := by rw [anG_0]; exact fun z => z h0
    have := fin (wL w 5 0 7 ((w.2 5 0 7) + lN (S.1 n q))) rfl (Fr.rf.wL (by decide)) ⟨by
      rw [jl2, if_pos ⟨rfl, rfl, rfl⟩, hE.1, lN_add, if_neg ha], by
      rw [jl2, if_neg (by decide), hE.2]
      simp [ha]⟩
    exact this
  · rw [if_neg h0]
    have ha : anG L P n 4 = true := by rw [anG_0]; exact h0
    by_cases h1 : msk (goS L P (d7 n)) &&& (15 ^^^ q) = 0
    · rw [if_pos h1]
      have hw : ¬ wnG L P n q 4 = true := by rw [wnG_0 hq]; exact fun z => z h1
      have := fin (wL w 5 0 8 ((w.2 5 0 8) + lN (S.1 n q))) rfl (Fr.rf.wL (by decide)) ⟨by
        rw [jl2, if_neg (by decide), hE.1, if_pos ha, Nat.add_zero], by
        rw [jl2, if_pos ⟨rfl, rfl, rfl⟩, hE.2, lN_add]
        simp [ha, hw]⟩
      exact this
    · rw [if_neg h1]
      have hw : wnG L P n q 4 = true := by rw [wnG_0 hq]; exact h1
      exact fin w rfl Fr.rf ⟨by rw [hE.1, if_pos ha, Nat.add_zero], by
        rw [hE.2]
        simp [ha, hw]⟩
theorem aP_zero {n q : Nat} {A : Nat → Nat → Nat} (h : A n q = 0) : ∀ t, aP L P n q t A = A
  | 0 => rfl
  | t + 1 => by
    rw [aP, aP_zero h t]
    funext x y
    unfold aT
    rw [h, Nat.add_zero, ite_self]
theorem aS_zero {n q : Nat} {S : (Nat → Nat → Nat) × Nat × Nat} (h : S.1 n q = 0) : aS L P n (q + 1) S = aS L P n q S := by
  have h' : (aS L P n q S).1 n q = 0 := by rw [aS_n (Nat.le_refl n)]; exact h
  rw [aS, aP_zero h', h']
  simp
theorem aS_skip {n : Nat} {S : (Nat → Nat → Nat) × Nat × Nat} (h : ∀ q, S.1 n q = 0) : ∀ q, aS L P n q S = S
  | 0 => rfl
  | q + 1 => by rw [aS_zero (h q), aS_skip h q]
theorem aR_skip (hW : WP L P) {n : Nat} (h : W7 L P n = 0) : aR L P (n + 1) = aR L P n := by
  have h0 : ∀ q, (aR L P n).1.1 n q = 0 := fun q => by
    by_cases hz : (aR L P n).1.1 n q = 0
    · exact hz
    · exact absurd h (SI_R hW n n q hz).2.2.1
  rw [aR, aS_skip h0, show zsm ((aR L P n).1.1 n) 16 = 0 from by
    rw [zsm_congr (g := fun _ => 0) fun i _ => h0 i]
    rfl]
  simp
theorem aR_le (n : Nat) : (aR L P n).2 ≤ n := by
  induction n with
  | zero => exact Nat.le_refl _
  | succ n ih =>
    rw [aR]
    show (aR L P n).2 + _ ≤ _
    split <;> omega
/-- whether a stand has been come to, by some sets -/
def cmF (L : Nat → Nat) (P : Nat → Nat → Nat) (n q : Nat) : Nat := if zsm ((aR L P n).1.1 n) q = 0 then 0 else 1
def S9 (w w' : Wd) : Prop := ∀ j, j ≠ 9 → w'.1 5 0 j = w.1 5 0 j
theorem v_from_lp (hW : WP L P) {n D : Nat} (hn : n < 2401) (hr : W7 L P n ≠ 0) : ∀ (k q : Nat) (w : Wd), k + q = 16 → SPX w L P → TA w (aS L P n q (aR L P n).1).1 → TE w (aS L P n q (aR L P n).1).2.1 (aS L P n q (aR L P n).1).2.2 → w.1 5 0 9 = nI (aR L P n).2 →
    ∃ w', x_X5_exploreFrom 4 [] [some (zr 5 0), some (zi (nI (eN n))), some (zi (nI (cmF L P n q))), some (zi (nI q)), none, none] w = some w' ∧ Fr SWi w w' ∧ S9 w w' ∧ TA w' (aR L P (n + 1)).1.1 ∧ TE w' (aR L P (n + 1)).1.2.1 (aR L P (n + 1)).1.2.2 ∧ w'.1 5 0 9 = nI (aR L P (n + 1)).2 := by
  have hE4 := eN_lt40 hn
  intro k
  induction k with
  | zero =>
    intro q w hk hX hA hE hD
    have hq : q = 16 := by omega
    subst hq
    have e0 : aR L P (n + 1) = (aS L P n 16 (aR L P n).1, (aR L P n).2 + if (!decide (zsm ((aR L P n).1.1 n) 16 = 0) && deadS L P (d7 n)) = true then 1 else 0) := rfl
    rw [e_X5_exploreFrom_4, v_isDead8 hW hX hE4]
    simp (disch := omega) only [jl, jle, joc, j01]
    rw [if_pos (by omega), W_eN hW n hn, eN_dig hn, e0]
    unfold cmF
    by_cases hz : zsm ((aR L P n).1.1 n) 16 = 0
    · rw [if_pos hz, if_pos (by rfl)]
      refine ⟨w, rfl, Fr.rf, fun _ _ => rfl, hA, hE, ?_⟩
      simp [hz, hD]
    · rw [if_neg hz, if_neg (by decide)]
      have hb : (!decide (W7 L P n = 0) && deadS L P (d7 n)) = deadS L P (d7 n) := by simp [hr]
      rw [hb]
      cases hd : deadS L P (d7 n) with
      | false =>
        refine ⟨w, by simp, Fr.rf, fun _ _ => rfl, hA, hE, ?_⟩
        simp [hD]
      | true =>
        refine ⟨wI w 5 0 9 (nI ((aR L P n).2 + 1)), by simp only [Bool.true_eq_false, ↓reduceIte, hD, nI_add], Fr.rf.wI (by decide), fun j hj => ?_, hA, hE, ?_⟩
        · rw [jw1, if_neg (fun z => hj z.2.2)]
        · rw [jw1, if_pos ⟨rfl, rfl, rfl⟩]
          simp [hz]
  | succ k ih =>
    intro q w hk hX hA hE hD
    have hq : q < 16 := by omega
    have hsm := aS_small (q := q) hW hn hq
    have hold := hA n q hn hq
    have e1 : (aS L P n q (aR L P n).1).1 n q = (aR L P n).1.1 n q := aS_n (Nat.le_refl n) q q
    have ec : zsm ((aR L P n).1.1 n) (q + 1) = zsm ((aR L P n).1.1 n) q + (aR L P n).1.1 n q := rfl
    rw [e_X5_exploreFrom_4]
    simp (disch := omega) only [jl, jlL, jle, jmul, nI_add, jchk, jcl, hold, lcmp0]
    rw [if_neg (by omega)]
    by_cases hz : (aR L P n).1.1 n q = 0
    · rw [if_pos (by rw [e1]; exact hz)]
      have e2 := aS_zero (L := L) (P := P) (n := n) (q := q) (S := (aR L P n).1) hz
      obtain ⟨w', h⟩ := ih (q + 1) w (by omega) hX (by rw [e2]; exact hA) (by rw [e2]; exact hE) hD
      refine ⟨w', ?_, h.2⟩
      rw [← h.1]
      unfold cmF
      simp only [ec, hz, Nat.add_zero]
    · rw [if_neg (by rw [e1]; exact hz)]
      have hS := SI_S hW (n := n) (SI_R (L := L) (P := P) hW n) q
      have hs := (hS n q (by rw [e1]; exact hz)).2.2.2
      obtain ⟨w1, a1, a2, a3, a4, a5⟩ := v_exploreWith hW hn hr hq hs hX hA hE
      obtain ⟨w', h1, h2, h3, h4⟩ := ih (q + 1) w1 (by omega) (SPX_fr a2 rfl rfl rfl rfl rfl (by rw [a3]) hX) a4 a5 (by rw [a3]; exact hD)
      refine ⟨w', ?_, a2.tr h2, fun j hj => by rw [h3 j hj, a3], h4⟩
      rw [a1, joc, ← h1]
      have e3 : cmF L P n (q + 1) = 1 := by
        unfold cmF
        rw [if_neg (by omega)]
      rw [e3]
theorem v_slp_lp (hW : WP L P) : ∀ (k c m : Nat) (w : Wd), k + c = 4096 → m ≤ 2401 → (∀ n, n < 2401 → (eN n < c ↔ n < m)) → SPX w L P → TA w (aR L P m).1.1 → TE w (aR L P m).1.2.1 (aR L P m).1.2.2 → w.1 5 0 9 = nI (aR L P m).2 →
    ∃ w', x_X5_exploreWithSleepSets 45 [] [some (zr 5 0), some (zi (nI c))] w = some w' ∧ Fr SWi w w' ∧ S9 w w' ∧ TE w' (aR L P 2401).1.2.1 (aR L P 2401).1.2.2 ∧ w'.1 5 0 9 = nI (aR L P 2401).2 := by
  intro k
  induction k with
  | zero =>
    intro c m w hk hm hcm hX hA hE hD
    have hm' : m = 2401 := by
      by_cases h : m < 2401
      · have := (hcm m h).mp (by have := eN_lt40 h; omega)
        omega
      · omega
    subst hm'
    refine ⟨w, ?_, Fr.rf, fun _ _ => rfl, hE, hD⟩
    rw [e_X5_exploreWithSleepSets_45]
    simp (disch := omega) only [jl, jle]
    rw [if_pos (by omega)]
  | succ k ih =>
    intro c m w hk hm hcm hX hA hE hD
    have hc : c < 4096 := by omega
    have hs : W8 L P c < 281474976710657 := ds_small ds8 (P := P) hW hc
    rw [e_X5_exploreWithSleepSets_45, v_isReachable hc (hX.2.2.1 c hc) (by omega)]
    simp (disch := omega) only [jl, jle, joc, j01, nI_add]
    rw [if_neg (by omega)]
    by_cases hex : ∃ n, n < 2401 ∧ eN n = c
    · obtain ⟨n, hn, rfl⟩ := hex
      have hnm : n = m := by
        have h1 : ¬ n < m := fun h => by have := (hcm n hn).mpr h; omega
        rcases Nat.lt_or_ge m n with q | q
        · have h2 := eN_mono q
          have := (hcm m (by omega)).mp h2
          omega
        · omega
      subst hnm
      have hcm' : ∀ i, i < 2401 → (eN i < eN n + 1 ↔ i < n + 1) := fun i hi => by
        rcases Nat.lt_trichotomy i n with q | q | q
        · have := eN_mono q; omega
        · subst q; omega
        · have := eN_mono q; omega
      by_cases hz : W7 L P n = 0
      · rw [W_eN hW n hn, hz]
        have e2 := aR_skip (P := P) hW hz
        obtain ⟨w', h⟩ := ih (eN n + 1) (n + 1) w (by omega) (by omega) hcm' hX (by rw [e2]; exact hA) (by rw [e2]; exact hE) (by rw [e2]; exact hD)
        exact ⟨w', by rw [← h.1]; simp, h.2⟩
      · rw [W_eN hW n hn]
        obtain ⟨w1, a1, a2, a3, a4, a5, a6⟩ := v_from_lp (D := 0) hW hn hz 16 0 w rfl hX hA hE hD
        obtain ⟨w', h1, h2, h3, h4⟩ := ih (eN n + 1) (n + 1) w1 (by omega) (by omega) hcm' (SPX_fr a2 rfl rfl rfl rfl rfl (a3 1 (by decide)) hX) a4 a5 a6
        refine ⟨w', ?_, a2.tr h2, fun j hj => by rw [h3 j hj, a3 j hj], h4⟩
        have a0 : f_X5_exploreFrom 0 (nI (eN n)) w = some w1 := by
          rw [e_X5_exploreFrom]
          exact a1
        rw [← h1, a0]
        simp [hz, joc]
    · have hz : W8 L P c = 0 := by
        by_cases h : W8 L P c = 0
        · exact h
        · exact absurd (W8_img hW hc h) hex
      rw [hz]
      obtain ⟨w', h⟩ := ih (c + 1) m w (by omega) hm (fun n hn => by
        rw [← hcm n hn]
        have : eN n ≠ c := fun e => hex ⟨n, hn, e⟩
        omega) hX hA hE hD
      exact ⟨w', by rw [← h.1]; simp, h.2⟩
/-- what the class keeps of sleep sets is theirs -/
def SLX (w : Wd) (L : Nat → Nat) (P : Nat → Nat → Nat) : Prop := TE w (aR L P 2401).1.2.1 (aR L P 2401).1.2.2 ∧ w.1 5 0 9 = nI (aR L P 2401).2 ∧ w.1 5 0 5 = nI 1
theorem v_exploreWithSleepSets (hW : WP L P) {w : Wd} (hX : SPX w L P) (hS : w.1 5 0 5 = nI 0 ∨ SLX w L P) : ∃ w', f_X5_exploreWithSleepSets 0 w = some w' ∧ Fr SWi w w' ∧ SPX w' L P ∧ SLX w' L P := by
  rcases hS with h0 | hS
  · have f1 : Fr (S1 5 0) w (wI (wL (wL (wI w 5 0 5 (nI 1)) 5 0 7 (lN 0)) 5 0 8 (lN 0)) 5 0 9 (nI 0)) := (((Fr.rf.wI (by decide)).wL (by decide)).wL (by decide)).wI (by decide)
    generalize hw1 : wI (wL (wL (wI w 5 0 5 (nI 1)) 5 0 7 (lN 0)) 5 0 8 (lN 0)) 5 0 9 (nI 0) = w1 at f1
    obtain ⟨w2, b1, b2, b3⟩ := v_fill_J (k := 2) (len := 65536) rfl (lN 0) w1
    have f3 : Fr S17 w2 (wL w2 17 2 0 (lN 1)) := Fr.rf.wL (by decide)
    have e5 : ∀ j, (wL w2 17 2 0 (lN 1)).1 5 0 j = w1.1 5 0 j := fun j => by rw [jl1, (b2 5 0 rfl).1]
    have l5 : ∀ j, (wL w2 17 2 0 (lN 1)).2 5 0 j = w1.2 5 0 j := fun j => by rw [jl2, if_neg (fun z => absurd z.1 (by decide)), (b2 5 0 rfl).2]
    have g1 : ∀ j, j ≠ 5 → j ≠ 9 → w1.1 5 0 j = w.1 5 0 j := fun j h1 h2 => by
      rw [← hw1, jw1, if_neg (fun z => h2 z.2.2), jl1, jl1, jw1, if_neg (fun z => h1 z.2.2)]
    have g5 : w1.1 5 0 5 = nI 1 := by
      rw [← hw1, jw1, if_neg (by decide), jl1, jl1, jw1, if_pos ⟨rfl, rfl, rfl⟩]
    have g9 : w1.1 5 0 9 = nI 0 := by
      rw [← hw1, jw1, if_pos ⟨rfl, rfl, rfl⟩]
    have g7 : w1.2 5 0 7 = lN 0 := by
      rw [← hw1, jw2, jl2, if_neg (by decide), jl2, if_pos ⟨rfl, rfl, rfl⟩]
    have g8' : w1.2 5 0 8 = lN 0 := by
      rw [← hw1, jw2, jl2, if_pos ⟨rfl, rfl, rfl⟩]
    have f13 : Fr SWi w (wL w2 17 2 0 (lN 1)) := (f1.mono fun t i h => S2_r h).tr ((b2.tr f3).mono fun t i h => S2_l h)
    have hX3 : SPX (wL w2 17 2 0 (lN 1)) L P := SPX_fr f13 rfl rfl rfl rfl rfl (by rw [e5, g1 1 (by decide) (by decide)]) hX
    obtain ⟨w', h1, h2, h3, h4, h5⟩ := v_slp_lp hW 4096 0 0 (wL w2 17 2 0 (lN 1)) rfl (Nat.zero_le _) (fun n _ => by omega) hX3 (fun n q hn hq => by
      show (wL w2 17 2 0 (lN 1)).2 17 2 (eN n * 16 + q) = lN (if n = 0 ∧ q = 0 then 1 else 0)
      have hE := eN_lt40 hn
      rw [jl2]
      by_cases e : n = 0 ∧ q = 0
      · rw [if_pos e, if_pos ⟨rfl, rfl, by rw [e.1, e.2]; rfl⟩]
      · have hne : ¬ (eN n * 16 + q = 0) := fun z => e (by
          have h1 : eN n = 0 := by omega
          exact ⟨eN_inj (h1.trans (show 0 = eN 0 from rfl)), by omega⟩)
        rw [if_neg e, if_neg (fun z => hne z.2.2)]
        exact b3 _ (by omega)) ⟨(l5 7).trans g7, (l5 8).trans g8'⟩ ((e5 9).trans g9)
    refine ⟨w', ?_, f13.tr h2, SPX_fr h2 rfl rfl rfl rfl rfl (h3 1 (by decide)) hX3, h4, h5, by rw [h3 5 (by decide), e5, g5]⟩
    rw [e_X5_exploreWithSleepSets, h0]
    simp (disch := omega) only [jl, jlL, jzb1, hw1, b1, joc, jchk, jcl]
    rw [if_pos (by rfl)]
    exact h1
  · refine ⟨w, ?_, Fr.rf, hX, hS⟩
    rw [e_X5_exploreWithSleepSets, hS.2.2, if_neg (by decide)]
end S8
