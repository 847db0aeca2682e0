/-! SLEEP SETS: the reference, layer by layer. -/
section S7
variable {L : Nat → Nat} {P : Nat → Nat → Nat}
theorem tb1 (r u : Nat) : (r / 2 ^ u % 2 = 1) = (r.testBit u = true) := by
  rw [Nat.testBit_eq_decide_div_mod_eq]
  simp
theorem tb0 (r u : Nat) : (r / 2 ^ u % 2 = 0) = (r.testBit u = false) := by
  rw [Nat.testBit_eq_decide_div_mod_eq]
  simp
theorem u_asleep {w : Wd} (hR : RQ w 0 0 L P) (hW : WP L P) {n t r : Nat} (hn : n < 2147483648) (ht : t < 4) (hd : d7 n t < L t) (hr : r < 16) (hrt : r.testBit t = false) (hs : ∀ u, u < 4 → r.testBit u = true → d7 n u < L u) :
    f_X8_asleep 0 (nI n) (nI r) (nI t) w = some (nI (msk fun u => r.testBit u && cm (P u (d7 n u)) (P t (d7 n t))), w) := by
  have st : ∀ u a, u < 4 → x_X8_asleep 18 [] [some (zr 8 0), some (zi (nI n)), some (zi (nI r)), some (zi (nI t)), some (zi (nI (P t (d7 n t)))), some (zi (nI a)), some (zi (nI u)), none] w = x_X8_asleep 18 [] [some (zr 8 0), some (zi (nI n)), some (zi (nI r)), some (zi (nI t)), some (zi (nI (P t (d7 n t)))), some (zi (nI (a ||| if (r.testBit u && cm (P u (d7 n u)) (P t (d7 n t))) = true then 2 ^ u else 0))), some (zi (nI (u + 1))), none] w := fun u a hu => by
    have h2 : 2 ^ u ≤ 2 ^ 3 := Nat.pow_le_pow_right (by decide) (by omega)
    have hdiv : r / 2 ^ u < 2147483648 := Nat.lt_of_le_of_lt (Nat.div_le_self _ _) (by omega)
    have hm2 : r / 2 ^ u % 2 < 2 := Nat.mod_lt _ (by decide)
    rw [e_X8_asleep_18]
    simp (disch := omega) only [jl, jle, jshr, jand, Nat.and_one_is_mod, jeq, tb1, nI_add, e_X8_asleep_65]
    rw [if_neg (by omega)]
    cases hb : r.testBit u with
    | false =>
      simp (disch := omega) only [Bool.false_eq_true, ↓reduceIte, jor, jeq0, Bool.false_and]
    | true =>
      have hdu := hs u hu hb
      have hne : ¬ u = t := fun e => by rw [e, hrt] at hb; cases hb
      simp (disch := omega) only [↓reduceIte, if_neg hne, u_done, joc, u_step hR hW hu hdu, u_commute (P_lt hW hu hdu) (P_lt hW ht hd), j01, Bool.true_and, jor, jeq0, jshl, Nat.one_mul, Nat.reduceEqDiff]
      cases cm (P u (d7 n u)) (P t (d7 n t)) <;> simp
  rw [e_X8_asleep, u_done hn ht, joc, u_step hR hW ht hd, joc]
  simp only [jl]
  rw [st 0 0 (by decide), st 1 _ (by decide), st 2 _ (by decide), st 3 _ (by decide), e_X8_asleep_18]
  simp (disch := omega) only [jl, jle, Nat.reduceLeDiff, Nat.reduceAdd, ↓reduceIte, Nat.zero_or]
  rfl
/-- the reference's count of what is come to: this layer and the next -/
def TM (w : Wd) (l : Nat) (A : Nat → Nat → Nat) : Prop := ∀ a q, a < 343 → q < 16 → w.2 34 0 (16 * a + q) = lN (A (343 * l + a) q) ∧ w.2 35 0 (16 * a + q) = lN (A (343 * (l + 1) + a) q)
def ST : Nat → Nat → Bool := S2 (S1 34 0) (S1 35 0)
theorem d7_top {l a : Nat} (hl : l < 7) (ha : a < 343) : d7 (343 * l + a) 0 = l := by
  rw [d7_0]; omega
theorem at_next {l a t : Nat} (hl : l < 7) (ha : a < 343) (ht : t < 4) (h0 : t ≠ 0) (hd : d7 (343 * l + a) t < 6) : a + g7 t < 343 := by
  rcases four ht with rfl | rfl | rfl | rfl
  · exact absurd rfl h0
  · rw [d7_1] at hd; rw [g7_1]; omega
  · rw [d7_2] at hd; rw [g7_2]; omega
  · rw [d7_3, Nat.div_one] at hd; rw [g7_3]; omega
theorem u_exp_lp (hW : WP L P) {l a q : Nat} (hl : l < 7) (ha : a < 343) (hr : W7 L P (343 * l + a) ≠ 0) (hq : q < 16) (hs : ∀ u, u < 4 → q.testBit u = true → d7 (343 * l + a) u < L u) : ∀ (k t : Nat) (w : Wd) (A : Nat → Nat → Nat), k + t = 4 → RQ w 0 0 L P → HH w L P → TM w l A →
    ∃ w' A', x_X8_explores 34 [] [some (zr 8 0), none, some (zi (nI a)), some (zi (nI q)), some (zi (nI (343 * l + a))), some (zl (lN (A (343 * l + a) q))), none, some (zi (nI (sRs L P (343 * l + a) q t))), some (zi (nI (if anG L P (343 * l + a) t = true then 1 else 0))), some (zi (nI (if wnG L P (343 * l + a) q t = true then 1 else 0))), some (zi (nI t)), none, none] w =
      x_X8_explores 34 [] [some (zr 8 0), none, some (zi (nI a)), some (zi (nI q)), some (zi (nI (343 * l + a))), some (zl (lN (A (343 * l + a) q))), none, some (zi (nI (sRs L P (343 * l + a) q 4))), some (zi (nI (if anG L P (343 * l + a) 4 = true then 1 else 0))), some (zi (nI (if wnG L P (343 * l + a) q 4 = true then 1 else 0))), some (zi (nI 4)), none, none] w' ∧ Fr ST w w' ∧ w'.1 = w.1 ∧ TM w' l A' ∧ (∀ B, aP L P (343 * l + a) q t B = A → aP L P (343 * l + a) q 4 B = A') := by
  generalize hn' : 343 * l + a = n at hr hs
  have hn : n < 2401 := by omega
  have hv := ds_reach ds7 hW n hn hr
  intro k
  induction k with
  | zero =>
    intro t w A ht hR hH hA
    have : t = 4 := by omega
    subst this
    exact ⟨w, A, rfl, Fr.rf, rfl, hA, fun B hB => hB⟩
  | succ k ih =>
    intro t w A ht hR hH hA
    have ht4 : t < 4 := by omega
    have h2 : 2 ^ t ≤ 2 ^ 3 := Nat.pow_le_pow_right (by decide) (by omega)
    have hdiv : q / 2 ^ t < 2147483648 := Nat.lt_of_le_of_lt (Nat.div_le_self _ _) (by omega)
    have hm2 : q / 2 ^ t % 2 < 2 := Nat.mod_lt _ (by decide)
    have hcan : f_X8_canGo 0 (nI n) (nI t) w = some (nI (if go7 L P n t = true then 1 else 0), w) := u_canGo hR hW hH (n := n) (by omega) ht4 hv 0
    have ean : anG L P n (t + 1) = (anG L P n t || go7 L P n t) := rfl
    have ewn : wnG L P n q (t + 1) = (wnG L P n q t || (go7 L P n t && !q.testBit t)) := rfl
    have e65 : ∀ x9 : Nat, x_X8_explores 34 [] [some (zr 8 0), none, some (zi (nI a)), some (zi (nI q)), some (zi (nI n)), some (zl (lN (A n q))), none, some (zi (nI (sRs L P n q t))), some (zi (nI (if anG L P n t = true then 1 else 0))), some (zi (nI x9)), some (zi (nI t)), none, none] w =
        x_X8_explores 65 [zi (nI (if anG L P n (t + 1) = true then 1 else 0))] [some (zr 8 0), none, some (zi (nI a)), some (zi (nI q)), some (zi (nI n)), some (zl (lN (A n q))), none, some (zi (nI (sRs L P n q t))), none, some (zi (nI x9)), some (zi (nI t)), some (zi (nI (if go7 L P n t = true then 1 else 0))), none] w := fun x9 => by
      rw [e_X8_explores_34, hcan]
      simp (disch := omega) only [jl, jle, joc, j01]
      rw [if_neg (by omega), ean]
      cases anG L P n t <;> cases go7 L P n t <;> simp
    rw [e65, e_X8_explores_65]
    simp (disch := omega) only [jl, j01, jshr, jand, Nat.and_one_is_mod, jeq0, tb0, nI_add, jshl, Nat.one_mul, jor]
    by_cases hg : go7 L P n t = true
    · have hgf : ¬ go7 L P n t = false := by rw [hg]; decide
      rw [if_neg hgf]
      by_cases hqt : q.testBit t = false
      · rw [if_pos hqt]
        have hb : (go7 L P n t && !q.testBit t) = true := by rw [hg, hqt]; rfl
        have hdt : d7 n t < L t := goS_lt hg
        have hL := (hW t ht4).1
        have hN : sNx L P n q t < 16 := msk_lt _
        have has : f_X8_asleep 0 (nI n) (nI (sRs L P n q t)) (nI t) w = some (nI (sNx L P n q t), w) := u_asleep hR hW (by omega) ht4 hdt (sRs_lt hq t (by omega)) (sRs_self ht4 hqt) (fun u hu h => sRs_nx hs (by omega) hu h)
        have e1 : sRs L P n q (t + 1) = sRs L P n q t ||| 2 ^ t := by rw [sRs, if_pos hb]
        have e2 : wnG L P n q (t + 1) = true := by rw [ewn, hb, Bool.or_true]
        simp (disch := omega) only [has, joc]
        by_cases h0 : t = 0
        · rw [if_pos h0]
          have hold := (hA a (sNx L P n q t) ha hN).2
          have eg : g7 t = 343 := by rw [h0]; rfl
          simp (disch := omega) only [jmul, nI_add, jchk, jcl, hold, lN_add]
          obtain ⟨w', A', h1, h2, h3, h4, h5⟩ := ih (t + 1) (wL w 35 0 (16 * a + sNx L P n q t) (lN (A (343 * (l + 1) + a) (sNx L P n q t) + A n q))) (aT L P n q t A) (by omega) hR hH (fun m p hm hp => by
            have h := hA m p hm hp
            refine ⟨?_, ?_⟩
            · rw [jl2, if_neg (fun z => absurd z.1 (by decide)), h.1]
              congr 1
              unfold aT
              rw [if_neg (by omega)]
            · rw [jl2]
              unfold aT
              by_cases e : m = a ∧ p = sNx L P n q t
              · rw [if_pos ⟨rfl, rfl, by rw [e.1, e.2]⟩, if_pos ⟨by omega, e.2, hb⟩, e.1, e.2]
              · rw [if_neg (fun z => e ⟨by omega, by omega⟩), if_neg (fun z => e ⟨by omega, z.2.1⟩)]
                exact h.2)
          rw [aT_n (Nat.le_refl n)] at h1
          refine ⟨w', A', ?_, (Fr.rf.wL (by decide)).tr h2, h3, h4, fun B hB => h5 B ?_⟩
          · rw [← h1, e1, e2, if_pos rfl]
          · rw [aP, hB]
        · rw [if_neg h0]
          have hat := at_next hl ha ht4 h0 (by rw [hn']; omega)
          have hold := (hA (a + g7 t) (sNx L P n q t) hat hN).1
          simp (disch := omega) only [u_figure ht4, joc, jmul, nI_add, jchk, jcl, hold, lN_add]
          obtain ⟨w', A', h1, h2, h3, h4, h5⟩ := ih (t + 1) (wL w 34 0 (16 * (a + g7 t) + sNx L P n q t) (lN (A (343 * l + (a + g7 t)) (sNx L P n q t) + A n q))) (aT L P n q t A) (by omega) hR hH (fun m p hm hp => by
            have h := hA m p hm hp
            refine ⟨?_, ?_⟩
            · rw [jl2]
              unfold aT
              by_cases e : m = a + g7 t ∧ p = sNx L P n q t
              · rw [if_pos ⟨rfl, rfl, by rw [e.1, e.2]⟩, if_pos ⟨by omega, e.2, hb⟩, e.1, e.2]
              · rw [if_neg (fun z => e ⟨by omega, by omega⟩), if_neg (fun z => e ⟨by omega, z.2.1⟩)]
                exact h.1
            · rw [jl2, if_neg (fun z => absurd z.1 (by decide)), h.2]
              congr 1
              unfold aT
              rw [if_neg (by omega)])
          rw [aT_n (Nat.le_refl n)] at h1
          refine ⟨w', A', ?_, (Fr.rf.wL (by decide)).tr h2, h3, h4, fun B hB => h5 B ?_⟩
          · rw [← h1, e1, e2, if_pos rfl]
          · rw [aP, hB]
      · rw [if_neg hqt]
        have hb : ¬ (go7 L P n t && !q.testBit t) = true := by
          simp at hqt
          simp [hqt]
        obtain ⟨w', A', h1, h2, h3, h4, h5⟩ := ih (t + 1) w A (by omega) hR hH hA
        have e1 : sRs L P n q (t + 1) = sRs L P n q t := by rw [sRs, if_neg hb]
        have e2 : wnG L P n q (t + 1) = wnG L P n q t := by
          rw [ewn]
          simp at hb
          cases wnG L P n q t <;> simp [hb]
          exact hb
        refine ⟨w', A', ?_, h2, h3, h4, fun B hB => h5 B ?_⟩
        · rw [← h1, e1, e2]
        · rw [aP, hB]
          funext x y
          unfold aT
          rw [if_neg (fun z => hb z.2.2)]
    · have hgf : go7 L P n t = false := by
        cases h : go7 L P n t with
        | false => rfl
        | true => exact absurd h hg
      rw [if_pos hgf]
      have hb : ¬ (go7 L P n t && !q.testBit t) = true := by simp [hgf]
      obtain ⟨w', A', h1, h2, h3, h4, h5⟩ := ih (t + 1) w A (by omega) hR hH hA
      have e1 : sRs L P n q (t + 1) = sRs L P n q t := by rw [sRs, if_neg hb]
      have e2 : wnG L P n q (t + 1) = wnG L P n q t := by
        rw [ewn, hgf]
        simp
      refine ⟨w', A', ?_, h2, h3, h4, fun B hB => h5 B ?_⟩
      · rw [← h1, e1, e2]
      · rw [aP, hB]
        funext x y
        unfold aT
        rw [if_neg (fun z => hb z.2.2)]
def SMi : Nat → Nat → Bool := S2 ST (S1 8 0)
def UE (w : Wd) (E C : Nat) : Prop := w.2 8 0 12 = lN E ∧ w.2 8 0 13 = lN C
theorem u_explores (hW : WP L P) {l a q : Nat} (hl : l < 7) (ha : a < 343) (hr : W7 L P (343 * l + a) ≠ 0) (hq : q < 16) (hs : ∀ u, u < 4 → q.testBit u = true → d7 (343 * l + a) u < L u) {w : Wd} {S : (Nat → Nat → Nat) × Nat × Nat} (hR : RQ w 0 0 L P) (hH : HH w L P) (hA : TM w l S.1) (hE : UE w S.2.1 S.2.2) :
    ∃ w', f_X8_explores 0 (nI l) (nI a) (nI q) w = some w' ∧ Fr SMi w w' ∧ w'.1 = w.1 ∧ TM w' l (aP L P (343 * l + a) q 4 S.1) ∧ UE w' (S.2.1 + (if anG L P (343 * l + a) 4 = true then 0 else S.1 (343 * l + a) q)) (S.2.2 + if (anG L P (343 * l + a) 4 && !wnG L P (343 * l + a) q 4) = true then S.1 (343 * l + a) q else 0) := by
  obtain ⟨w1, A', h1, h2, h3, h4, h5⟩ := u_exp_lp hW hl ha hr hq hs 4 0 w S.1 rfl hR hH hA
  have hA0 := (hA a q ha hq).1
  have h6 := h5 S.1 rfl
  have fin : ∀ E C : Nat, ∃ w', some (wL (wL w1 8 0 12 (lN E)) 8 0 13 (lN C)) = some w' ∧ Fr SMi w w' ∧ w'.1 = w.1 ∧ TM w' l (aP L P (343 * l + a) q 4 S.1) ∧ UE w' E C := fun E C => by
    have f2 : Fr (S1 8 0) w1 (wL (wL w1 8 0 12 (lN E)) 8 0 13 (lN C)) := (Fr.rf.wL (by decide)).wL (by decide)
    refine ⟨_, rfl, (h2.mono fun t i h => S2_l h).tr (f2.mono fun t i h => S2_r h), h3, fun m p hm hp => ?_, ?_, ?_⟩
    · rw [(f2 34 0 rfl).2, (f2 35 0 rfl).2, h6]
      exact h4 m p hm hp
    · rw [jl2, if_neg (by decide), jl2, if_pos ⟨rfl, rfl, rfl⟩]
    · rw [jl2, if_pos ⟨rfl, rfl, rfl⟩]
  have e12 : w1.2 8 0 12 = lN S.2.1 := by rw [(h2 8 0 rfl).2]; exact hE.1
  have e13 : w1.2 8 0 13 = lN S.2.2 := by rw [(h2 8 0 rfl).2]; exact hE.2
  have h1' : x_X8_explores 34 [] [some (zr 8 0), none, some (zi (nI a)), some (zi (nI q)), some (zi (nI (343 * l + a))), some (zl (lN (S.1 (343 * l + a) q))), none, some (zi (nI q)), some (zi (nI 0)), some (zi (nI 0)), some (zi (nI 0)), none, none] w = _ := h1
  rw [e_X8_explores]
  simp (disch := omega) only [jl, jlL, jmul, nI_add, jchk, jcl, hA0]
  rw [h1', e_X8_explores_34]
  simp (disch := omega) only [jl, jlL, jle, j01, e_X8_explores_175, e12, lN_add]
  rw [if_pos (by omega)]
  have k13 : ∀ y : Int64, (wL w1 8 0 12 y).2 8 0 13 = lN S.2.2 := fun y => by
    rw [jl2, if_neg (by decide), e13]
  simp only [k13, lN_add]
  cases hb : anG L P (343 * l + a) 4 with
  | false =>
    simp only [↓reduceIte, Bool.false_and, Bool.false_eq_true]
    exact fin _ _
  | true =>
    cases hw : wnG L P (343 * l + a) q 4 with
    | false =>
      simp only [↓reduceIte, Bool.true_and, Bool.not_false, Bool.true_eq_false]
      exact fin _ _
    | true =>
      simp only [↓reduceIte, Bool.true_and, Bool.not_true, Bool.false_eq_true, Bool.true_eq_false]
      exact fin _ _
def S14 (w w' : Wd) : Prop := ∀ j, j ≠ 14 → w'.1 8 0 j = w.1 8 0 j
theorem u_sets_lp (hW : WP L P) {l a : Nat} (hl : l < 7) (ha : a < 343) : ∀ (k q : Nat) (w : Wd), k + q = 16 → RQ w 0 0 L P → HH w L P → TM w l (aS L P (343 * l + a) q (aR L P (343 * l + a)).1).1 → UE w (aS L P (343 * l + a) q (aR L P (343 * l + a)).1).2.1 (aS L P (343 * l + a) q (aR L P (343 * l + a)).1).2.2 → w.1 8 0 14 = nI (aR L P (343 * l + a)).2 →
    ∃ w', x_X8_sleeps 78 [] [some (zr 8 0), some (zi (nI l)), some (zi (nI a)), some (zi (nI (cmF L P (343 * l + a) q))), some (zi (nI q))] w = x_X8_sleeps 66 [] [some (zr 8 0), some (zi (nI l)), some (zi (nI (a + 1))), none, none] w' ∧ Fr SMi w w' ∧ S14 w w' ∧ TM w' l (aR L P (343 * l + a + 1)).1.1 ∧ UE w' (aR L P (343 * l + a + 1)).1.2.1 (aR L P (343 * l + a + 1)).1.2.2 ∧ w'.1 8 0 14 = nI (aR L P (343 * l + a + 1)).2 := by
  generalize hn' : 343 * l + a = n
  have hn : n < 2401 := by omega
  intro k
  induction k with
  | zero =>
    intro q w hk hR hH hA hE hD
    have hq : q = 16 := by omega
    subst hq
    have e0 : aR L P (n + 1) = (aS L P n 16 (aR L P n).1, (aR L P n).2 + if (!decide (zsm ((aR L P n).1.1 n) 16 = 0) && deadS L P (d7 n)) = true then 1 else 0) := rfl
    have fin : ∀ D : Nat, Fr SMi w (wI w 8 0 14 (nI D)) ∧ S14 w (wI w 8 0 14 (nI D)) ∧ TM (wI w 8 0 14 (nI D)) l (aS L P n 16 (aR L P n).1).1 ∧ UE (wI w 8 0 14 (nI D)) (aS L P n 16 (aR L P n).1).2.1 (aS L P n 16 (aR L P n).1).2.2 ∧ (wI w 8 0 14 (nI D)).1 8 0 14 = nI D := fun D =>
      ⟨Fr.rf.wI (by decide), fun j hj => by rw [jw1, if_neg (fun z => hj z.2.2)], hA, hE, by rw [jw1, if_pos ⟨rfl, rfl, rfl⟩]⟩
    rw [e_X8_sleeps_78, e0]
    simp (disch := omega) only [jl, jle, jmul, nI_add, hn', hD]
    rw [if_pos (by omega)]
    unfold cmF
    by_cases hz : zsm ((aR L P n).1.1 n) 16 = 0
    · rw [if_pos hz, if_pos (by rfl)]
      simp only [hz, decide_true, Bool.not_true, Bool.false_and, Bool.false_eq_true, ↓reduceIte]
      exact ⟨_, rfl, fin _⟩
    · rw [if_neg hz, if_neg (by decide)]
      have hr : ¬ W7 L P n = 0 := fun h => hz (by
        rw [zsm_congr (g := fun _ => 0) fun i _ => by
          by_cases h0 : (aR L P n).1.1 n i = 0
          · exact h0
          · exact absurd h (SI_R hW n n i h0).2.2.1]
        rfl)
      rw [u_isDead_s hR hW hH (n := n) (by omega) (ds_reach ds7 hW n hn hr) 0, joc]
      simp only [j01, hz, decide_false, Bool.not_false, Bool.true_and]
      cases hd : deadS L P (d7 n) with
      | false =>
        simp only [↓reduceIte, Bool.false_eq_true]
        exact ⟨_, rfl, fin _⟩
      | true =>
        simp only [↓reduceIte, Bool.true_eq_false]
        exact ⟨_, rfl, fin _⟩
  | succ k ih =>
    intro q w hk hR hH hA hE hD
    have hq : q < 16 := by omega
    have hsm := aS_small (q := q) hW hn hq
    have hold := (hA a q ha hq).1
    rw [hn'] at hold
    have e1 : (aS L P n q (aR L P n).1).1 n q = (aR L P n).1.1 n q := aS_n (Nat.le_refl n) q q
    have ec : zsm ((aR L P n).1.1 n) (q + 1) = zsm ((aR L P n).1.1 n) q + (aR L P n).1.1 n q := rfl
    rw [e_X8_sleeps_78]
    simp (disch := omega) only [jl, jlL, jle, jmul, nI_add, jchk, jcl, hold, lcmpP]
    rw [if_neg (by omega)]
    by_cases hz : (aR L P n).1.1 n q = 0
    · rw [if_pos (by rw [e1]; exact hz)]
      have e2 := aS_zero (L := L) (P := P) (n := n) (q := q) (S := (aR L P n).1) hz
      obtain ⟨w', h⟩ := ih (q + 1) w (by omega) hR hH (by rw [e2]; exact hA) (by rw [e2]; exact hE) hD
      refine ⟨w', ?_, h.2⟩
      rw [← h.1]
      unfold cmF
      simp only [ec, hz, Nat.add_zero]
    · rw [if_neg (by rw [e1]; exact hz)]
      have hS := SI_S hW (n := n) (SI_R (L := L) (P := P) hW n) q
      have hsi := hS n q (by rw [e1]; exact hz)
      have hex := u_explores hW hl ha (q := q) (by rw [hn']; exact hsi.2.2.1) hq (by rw [hn']; exact hsi.2.2.2) hR hH hA hE
      rw [hn'] at hex
      obtain ⟨w1, a1, a2, a3, a4, a5⟩ := hex
      obtain ⟨w', h1, h2, h3, h4⟩ := ih (q + 1) w1 (by omega) (a2.RQ rfl hR) (fun u hu j hj => by rw [a3]; exact hH u hu j hj) a4 a5 (by rw [a3]; exact hD)
      refine ⟨w', ?_, a2.tr h2, fun j hj => by rw [h3 j hj, a3], h4⟩
      rw [a1, joc, ← h1]
      have e3 : cmF L P n (q + 1) = 1 := by
        unfold cmF
        rw [if_neg (by omega)]
      rw [e3]
theorem HH_fr {S : Nat → Nat → Bool} {w w' : Wd} (hf : Fr S w w') (h : S 32 0 = false) (hH : HH w L P) : HH w' L P := fun u hu j hj => by
  rw [(hf 32 0 h).1]; exact hH u hu j hj
theorem u_ats_lp (hW : WP L P) {l : Nat} (hl : l < 7) : ∀ (k a : Nat) (w : Wd), k + a = 343 → RQ w 0 0 L P → HH w L P → TM w l (aR L P (343 * l + a)).1.1 → UE w (aR L P (343 * l + a)).1.2.1 (aR L P (343 * l + a)).1.2.2 → w.1 8 0 14 = nI (aR L P (343 * l + a)).2 →
    ∃ w', x_X8_sleeps 66 [] [some (zr 8 0), some (zi (nI l)), some (zi (nI a)), none, none] w = x_X8_sleeps 158 [] [some (zr 8 0), some (zi (nI l)), some (zi (nI 0)), none, none] w' ∧ Fr SMi w w' ∧ S14 w w' ∧ TM w' l (aR L P (343 * (l + 1))).1.1 ∧ UE w' (aR L P (343 * (l + 1))).1.2.1 (aR L P (343 * (l + 1))).1.2.2 ∧ w'.1 8 0 14 = nI (aR L P (343 * (l + 1))).2 := by
  intro k
  induction k with
  | zero =>
    intro a w hk hR hH hA hE hD
    have : a = 343 := by omega
    subst this
    have e : 343 * (l + 1) = 343 * l + 343 := by omega
    rw [e]
    refine ⟨w, ?_, Fr.rf, fun _ _ => rfl, hA, hE, hD⟩
    rw [e_X8_sleeps_66]
    simp (disch := omega) only [jl, jle]
    rw [if_pos (by omega)]
  | succ k ih =>
    intro a w hk hR hH hA hE hD
    obtain ⟨w1, a1, a2, a3, a4, a5, a6⟩ := u_sets_lp hW hl (show a < 343 by omega) 16 0 w rfl hR hH hA hE hD
    obtain ⟨w', h1, h2, h3, h4⟩ := ih (a + 1) w1 (by omega) (a2.RQ rfl hR) (HH_fr a2 rfl hH) a4 a5 a6
    refine ⟨w', ?_, a2.tr h2, fun j hj => by rw [h3 j hj, a3 j hj], h4⟩
    have a1' : x_X8_sleeps 78 [] [some (zr 8 0), some (zi (nI l)), some (zi (nI a)), some (zi (nI 0)), some (zi (nI 0))] w = _ := a1
    rw [← h1, ← a1', e_X8_sleeps_66]
    simp (disch := omega) only [jl, jle]
    rw [if_neg (by omega)]
/-- nothing has come beyond the next layer -/
def ZB (l : Nat) (A : Nat → Nat → Nat) : Prop := ∀ x y, 343 * (l + 2) ≤ x → A x y = 0
theorem ZB_P {l n q : Nat} (hn : n < 343 * (l + 1)) {A : Nat → Nat → Nat} (h : ZB l A) : ∀ t, ZB l (aP L P n q t A)
  | 0 => h
  | t + 1 => fun x y hx => by
    have := (g7_pos t).2
    rw [aP]
    unfold aT
    rw [if_neg (by omega)]
    exact ZB_P hn h t x y hx
theorem ZB_S {l n : Nat} (hn : n < 343 * (l + 1)) {S : (Nat → Nat → Nat) × Nat × Nat} (h : ZB l S.1) : ∀ q, ZB l (aS L P n q S).1
  | 0 => h
  | q + 1 => ZB_P hn (ZB_S hn h q) 4
theorem ZB_R (l : Nat) : ∀ n, n ≤ 343 * (l + 1) → ZB l (aR L P n).1.1
  | 0, _ => fun x y hx => by
    show (if x = 0 ∧ y = 0 then 1 else 0) = 0
    rw [if_neg (by omega)]
  | n + 1, hn => ZB_S (by omega) (ZB_R l n (by omega)) 16
/-- the next layer becomes this one -/
theorem u_layer_lp {l : Nat} (hl : l < 7) {A : Nat → Nat → Nat} (hZ : ZB l A) : ∀ (k c : Nat) (w : Wd), k + c = 5488 → (∀ x, x < 5488 → (x < c → w.2 34 0 x = lN (A (343 * (l + 1) + x / 16) (x % 16)) ∧ w.2 35 0 x = lN 0) ∧ (c ≤ x → w.2 35 0 x = lN (A (343 * (l + 1) + x / 16) (x % 16)))) →
    ∃ w', x_X8_sleeps 158 [] [some (zr 8 0), some (zi (nI l)), some (zi (nI c)), none, none] w = x_X8_sleeps 58 [] [some (zr 8 0), some (zi (nI (l + 1))), none, none, none] w' ∧ Fr ST w w' ∧ w'.1 = w.1 ∧ TM w' (l + 1) A := by
  intro k
  induction k with
  | zero =>
    intro c w hk hA
    refine ⟨w, ?_, Fr.rf, rfl, fun m p hm hp => ?_⟩
    · rw [e_X8_sleeps_158]
      simp (disch := omega) only [jl, jle, nI_add]
      rw [if_pos (by omega)]
    · have h := (hA (16 * m + p) (by omega)).1 (by omega)
      rw [show (16 * m + p) / 16 = m by omega, show (16 * m + p) % 16 = p by omega] at h
      refine ⟨h.1, ?_⟩
      rw [h.2, hZ _ _ (by omega)]
  | succ k ih =>
    intro c w hk hA
    have hc : c < 5488 := by omega
    have h35 := (hA c hc).2 (Nat.le_refl _)
    obtain ⟨w', h1, h2, h3, h4⟩ := ih (c + 1) (wL (wL w 34 0 c (w.2 35 0 c)) 35 0 c (lN 0)) (by omega) (fun x hx => by
      have h := hA x hx
      refine ⟨fun hxc => ?_, fun hxc => ?_⟩
      · by_cases e : x = c
        · rw [e]
          refine ⟨?_, ?_⟩
          · rw [jl2, if_neg (by omega), jl2, if_pos ⟨rfl, rfl, rfl⟩, h35]
          · rw [jl2, if_pos ⟨rfl, rfl, rfl⟩]
        · rw [jl2, if_neg (by omega), jl2, if_neg (by omega), jl2, if_neg (by omega), jl2, if_neg (by omega)]
          exact h.1 (by omega)
      · rw [jl2, if_neg (by omega), jl2, if_neg (by omega)]
        exact h.2 (by omega))
    refine ⟨w', ?_, ((Fr.rf.wL (by decide)).wL (by decide)).tr h2, h3, h4⟩
    rw [← h1, e_X8_sleeps_158]
    simp (disch := omega) only [jl, jlL, jle, jchk, jcl, nI_add]
    rw [if_neg (by omega)]
theorem u_layers_lp (hW : WP L P) : ∀ (k l : Nat) (w : Wd), k + l = 7 → RQ w 0 0 L P → HH w L P → TM w l (aR L P (343 * l)).1.1 → UE w (aR L P (343 * l)).1.2.1 (aR L P (343 * l)).1.2.2 → w.1 8 0 14 = nI (aR L P (343 * l)).2 →
    ∃ w', x_X8_sleeps 58 [] [some (zr 8 0), some (zi (nI l)), none, none, none] w = some w' ∧ Fr SMi w w' ∧ S14 w w' ∧ UE w' (aR L P 2401).1.2.1 (aR L P 2401).1.2.2 ∧ w'.1 8 0 14 = nI (aR L P 2401).2 := by
  intro k
  induction k with
  | zero =>
    intro l w hk hR hH hA hE hD
    have : l = 7 := by omega
    subst this
    refine ⟨w, ?_, Fr.rf, fun _ _ => rfl, hE, hD⟩
    rw [e_X8_sleeps_58]
    simp (disch := omega) only [jl, jle]
    rw [if_pos (by omega)]
  | succ k ih =>
    intro l w hk hR hH hA hE hD
    have hl : l < 7 := by omega
    obtain ⟨w1, a1, a2, a3, a4, a5, a6⟩ := u_ats_lp hW hl 343 0 w rfl hR hH hA hE hD
    obtain ⟨w2, b1, b2, b3, b4⟩ := u_layer_lp hl (ZB_R (L := L) (P := P) l (343 * (l + 1)) (Nat.le_refl _)) 5488 0 w1 rfl (fun x hx => ⟨fun h => by omega, fun _ => by
      have h := (a4 (x / 16) (x % 16) (by omega) (by omega)).2
      rw [show 16 * (x / 16) + x % 16 = x by omega] at h
      exact h⟩)
    have a2' := a2.tr (b2.mono fun t i h => (S2_l h : ST t i = false))
    obtain ⟨w', h1, h2, h3, h4⟩ := ih (l + 1) w2 (by omega) (a2'.RQ rfl hR) (HH_fr a2' rfl hH) b4 ⟨by rw [(b2 8 0 rfl).2]; exact a5.1, by rw [(b2 8 0 rfl).2]; exact a5.2⟩ (by rw [b3]; exact a6)
    refine ⟨w', ?_, a2'.tr h2, fun j hj => by rw [h3 j hj, b3, a3 j hj], h4⟩
    rw [← h1, ← b1, ← a1, e_X8_sleeps_58]
    simp (disch := omega) only [jl, jle]
    rw [if_neg (by omega)]
theorem u_init_lp : ∀ (k c : Nat) (w : Wd), k + c = 5488 → (∀ x, x < c → w.2 34 0 x = lN (if x = 0 then 1 else 0) ∧ w.2 35 0 x = lN 0) →
    ∃ w', x_X8_sleeps 21 [] [some (zr 8 0), some (zi (nI c)), none, none, none] w = x_X8_sleeps 58 [] [some (zr 8 0), some (zi (nI 0)), none, none, none] w' ∧ Fr ST w w' ∧ w'.1 = w.1 ∧ ∀ x, x < 5488 → w'.2 34 0 x = lN (if x = 0 then 1 else 0) ∧ w'.2 35 0 x = lN 0 := by
  intro k
  induction k with
  | zero =>
    intro c w hk hA
    refine ⟨w, ?_, Fr.rf, rfl, fun x hx => hA x (by omega)⟩
    rw [e_X8_sleeps_21]
    simp (disch := omega) only [jl, jle]
    rw [if_pos (by omega)]
  | succ k ih =>
    intro c w hk hA
    have hc : c < 5488 := by omega
    obtain ⟨w', h1, h2, h3, h4⟩ := ih (c + 1) (wL (wL w 34 0 c (lN (if c = 0 then 1 else 0))) 35 0 c (lN 0)) (by omega) (fun x hx => by
      by_cases e : x = c
      · rw [e]
        refine ⟨?_, ?_⟩
        · rw [jl2, if_neg (by omega), jl2, if_pos ⟨rfl, rfl, rfl⟩]
        · rw [jl2, if_pos ⟨rfl, rfl, rfl⟩]
      · have h := hA x (by omega)
        refine ⟨?_, ?_⟩
        · rw [jl2, if_neg (by omega), jl2, if_neg (fun z => e z.2.2)]
          exact h.1
        · rw [jl2, if_neg (fun z => e z.2.2), jl2, if_neg (by omega)]
          exact h.2)
    refine ⟨w', ?_, ((Fr.rf.wL (by decide)).wL (by decide)).tr h2, h3, h4⟩
    rw [← h1, e_X8_sleeps_21]
    simp (disch := omega) only [jl, jlL, jle, jchk, jcl, nI_add, jeq0]
    rw [if_neg (by omega)]
    by_cases e : c = 0
    · rw [if_pos e, if_pos e]
    · rw [if_neg e, if_neg e]
def SMs : Nat → Nat → Bool := S2 S32 SMi
theorem u_sleeps (hW : WP L P) {w : Wd} (hR : RQ w 0 0 L P) : ∃ w', f_X8_sleeps 0 w = some w' ∧ Fr SMs w w' ∧ S14 w w' ∧ UE w' (aR L P 2401).1.2.1 (aR L P 2401).1.2.2 ∧ w'.1 8 0 14 = nI (aR L P 2401).2 := by
  obtain ⟨w1, a1, a2, a3⟩ := u_laysHeld hW hR 0
  have f2 : Fr (S1 8 0) w1 (wI (wL (wL w1 8 0 12 (lN 0)) 8 0 13 (lN 0)) 8 0 14 (nI 0)) := ((Fr.rf.wL (by decide)).wL (by decide)).wI (by decide)
  have s2 : S14 w1 (wI (wL (wL w1 8 0 12 (lN 0)) 8 0 13 (lN 0)) 8 0 14 (nI 0)) := fun j hj => by rw [jw1, if_neg (fun z => hj z.2.2)]; rfl
  have u2 : UE (wI (wL (wL w1 8 0 12 (lN 0)) 8 0 13 (lN 0)) 8 0 14 (nI 0)) 0 0 := ⟨by rw [jw2, jl2, if_neg (by decide), jl2, if_pos ⟨rfl, rfl, rfl⟩], by rw [jw2, jl2, if_pos ⟨rfl, rfl, rfl⟩]⟩
  have d2 : (wI (wL (wL w1 8 0 12 (lN 0)) 8 0 13 (lN 0)) 8 0 14 (nI 0)).1 8 0 14 = nI 0 := by rw [jw1, if_pos ⟨rfl, rfl, rfl⟩]
  generalize hw2 : wI (wL (wL w1 8 0 12 (lN 0)) 8 0 13 (lN 0)) 8 0 14 (nI 0) = w2 at f2 s2 u2 d2
  obtain ⟨w3, c1, c2, c3, c4⟩ := u_init_lp 5488 0 w2 rfl (fun x hx => by omega)
  have hR2 : RQ w2 0 0 L P := f2.RQ rfl (a2.RQ rfl hR)
  have hH2 : HH w2 L P := HH_fr f2 rfl a3
  obtain ⟨w4, h1, h2, h3, h4, h5⟩ := u_layers_lp hW 7 0 w3 rfl (c2.RQ rfl hR2) (HH_fr c2 rfl hH2) (fun m p hm hp => by
    have h := c4 (16 * m + p) (by omega)
    refine ⟨?_, ?_⟩
    · rw [h.1]
      show lN _ = lN (if 343 * 0 + m = 0 ∧ p = 0 then 1 else 0)
      congr 1
      by_cases e : 16 * m + p = 0
      · rw [if_pos e, if_pos (by omega)]
      · rw [if_neg e, if_neg (by omega)]
    · rw [h.2]
      show lN 0 = lN (if 343 * (0 + 1) + m = 0 ∧ p = 0 then 1 else 0)
      rw [if_neg (by omega)]) ⟨by rw [(c2 8 0 rfl).2]; exact u2.1, by rw [(c2 8 0 rfl).2]; exact u2.2⟩ (by rw [c3]; exact d2)
  refine ⟨w4, ?_, (a2.mono fun t i h => S2_l h).tr ((f2.mono fun t i h => S2_r (S2_r h)).tr ((c2.mono fun t i h => S2_l (S2_r h)).tr (h2.mono fun t i h => S2_r h))), fun j hj => ?_, h4, h5⟩
  · rw [← h1, ← c1, e_X8_sleeps, a1, joc, ← hw2]
    simp only [jl, jlL]
  · rw [h3 j hj, c3, s2 j hj, (a2 8 0 rfl).1]
theorem nI64 {n : Nat} (h : n < 2147483648) : (nI n).toInt64 = lN n := by
  apply Int64.toInt_inj.mp
  rw [Int32.toInt_toInt64, nI_toInt h, lN_toInt (by omega)]
theorem q_sleeping (hW : WP L P) {w w1 : Wd} (hl : f_X5_lookAt 0 0 w = some w1) (hX : SPX w1 L P) (hS : w1.1 5 0 5 = nI 0 ∨ SLX w1 L P) (x : Int32) : ∃ v w2, f_X7_sleeping 0 x w = some (v, w2) ∧ Fr SWi w1 w2 ∧ SPX w2 L P ∧ SLX w2 L P ∧ ∀ wm, RQ wm 0 0 L P → ∃ wm', f_X8_sleeping 0 x wm = some (v, wm') ∧ Fr SMs wm wm' ∧ S14 wm wm' := by
  obtain ⟨w2, a1, a2, a3, a4⟩ := v_exploreWithSleepSets hW hX hS
  have hle := aR_le (L := L) (P := P) 2401
  have hno : (x < 0 ∨ ∃ n, n < 2147483648 ∧ x = nI n ∧ 3 ≤ n) → ∃ v w2, f_X7_sleeping 0 x w = some (v, w2) ∧ Fr SWi w1 w2 ∧ SPX w2 L P ∧ SLX w2 L P ∧ ∀ wm, RQ wm 0 0 L P → ∃ wm', f_X8_sleeping 0 x wm = some (v, wm') ∧ Fr SMs wm wm' ∧ S14 wm wm' := fun h => by
    refine ⟨-2, w2, ?_, a2, a3, a4, fun wm _ => ⟨wm, ?_, Fr.rf, fun _ _ => rfl⟩⟩
    · rw [e_X7_sleeping, hl, joc, a1, joc]
      simp only [jl]
      have hne : ∀ a, a < 3 → ¬ x = nI a := fun a ha e => by
        rcases h with h | ⟨n, hn, rfl, h3⟩
        · rw [e] at h
          exact nI_pos (show a < 2 ^ 31 by omega) h
        · have := nI_inj hn (by omega) e
          omega
      rw [if_neg (hne 0 (by decide)), if_neg (hne 1 (by decide)), if_neg (hne 2 (by decide))]
    · rw [e_X8_sleeping]
      simp only [jl]
      rcases h with h | ⟨n, hn, rfl, h3⟩
      · rw [u_in_neg h, joc, if_pos (by rfl)]
      · rw [u_in_n hn (by decide), joc, if_neg (show ¬ n ≤ 2 by omega), if_pos (by rfl)]
  rcases jnat x with hx | ⟨n, hn, rfl⟩
  · exact hno (Or.inl hx)
  · by_cases h3 : 3 ≤ n
    · exact hno (Or.inr ⟨n, hn, rfl, h3⟩)
    · refine ⟨lN (if n = 0 then (aR L P 2401).1.2.1 else if n = 1 then (aR L P 2401).1.2.2 else (aR L P 2401).2), w2, ?_, a2, a3, a4, fun wm hR => ?_⟩
      · rw [e_X7_sleeping, hl, joc, a1, joc]
        simp (disch := omega) only [jl, jeq, e_X5_sleepEnds, e_X5_sleepCuts, e_X5_sleepDeadlocks, joc, a4.1.1, a4.1.2, a4.2.1, nI64]
        rcases (show n = 0 ∨ n = 1 ∨ n = 2 by omega) with rfl | rfl | rfl <;> rfl
      · obtain ⟨wm', b1, b2, b3, b4, b5⟩ := u_sleeps hW hR
        refine ⟨wm', ?_, b2, b3⟩
        rw [e_X8_sleeping]
        simp only [jl]
        rw [u_in_n hn (by decide), joc, if_pos (show n ≤ 2 by omega), if_neg (show ¬ nI 1 = (0 : Int32) by decide), b1, joc]
        simp (disch := omega) only [jeq, jeq0, b4.1, b4.2, b5, nI64]
        rcases (show n = 0 ∨ n = 1 ∨ n = 2 by omega) with rfl | rfl | rfl <;> rfl
end S7
