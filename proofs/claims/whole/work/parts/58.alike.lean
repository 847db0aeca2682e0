/-! alike, alike. -/
section AK
variable {L : Nat → Nat} {P : Nat → Nat → Nat}
def eqU (a b : Nat → Nat) : Nat → Bool
  | 0 => true
  | k + 1 => eqU a b k && decide (a k = b k)
theorem eqU_no {a b : Nat → Nat} {k n : Nat} (h : a k ≠ b k) (hk : k < n) : eqU a b n = false := by
  induction n with
  | zero => omega
  | succ n ih =>
    rw [eqU]
    by_cases e : k = n
    · rw [← e]; simp [h]
    · rw [ih (by omega)]; rfl
theorem v_sameR {w : Wd} {k0 k1 n m : Nat} {A B : Nat → Nat} (hA : RR w k0 n A) (hB : RR w k1 m B) (hn : n ≤ 24) (hm : m ≤ 24) (ha : ∀ i, i < n → A i < 4) (hb : ∀ i, i < m → B i < 4) : f_X3_sameAs k0 k1 w = some (nI (if (decide (n = m) && eqU A B n) = true then 1 else 0), w) := by
  rw [e_X3_sameAs, hA.1, hB.1]
  simp (disch := omega) only [jeq, jl, jzb0]
  by_cases e : n = m
  · subst e
    rw [if_pos rfl]
    have lp : ∀ (c i : Nat), c + i = n → eqU A B i = true → x_X3_sameAs 15 [] [some (zr 3 k0), some (zr 3 k1), some (zi (nI i))] w = some (nI (if eqU A B n = true then 1 else 0), w) := by
      intro c
      induction c with
      | zero =>
        intro i hi he
        rw [e_X3_sameAs_15, hA.1]
        simp (disch := omega) only [jle, jl, jzb1]
        rw [if_pos (by omega), show n = i by omega, he]
        rfl
      | succ c ih =>
        intro i hi he
        have hin : i < n := by omega
        have h1 := ha i hin
        have h2 := hb i hin
        rw [e_X3_sameAs_15, hA.1]
        simp (disch := omega) only [jle, jl, jzb0, jchk, jcl, hA.2 i hin, hB.2 i hin, jeq, nI_add]
        rw [if_neg (by omega)]
        by_cases e : A i = B i
        · rw [if_pos e]
          exact ih (i + 1) (by omega) (by rw [eqU, he]; simp [e])
        · rw [if_neg e, eqU_no e hin]
          rfl
    rw [lp n 0 rfl rfl]
    simp
  · rw [if_neg e]
    simp [e]
theorem u_same_lp {w : Wd} {n : Nat} {A B : Nat → Nat} (hn : n ≤ 24) (h18 : w.1 8 0 18 = nI n) (hA : ∀ i, i < n → w.1 39 0 i = nI (A i)) (ha : ∀ i, i < n → A i < 4) (hB : ∀ i, i < n → w.1 41 0 i = nI (B i)) (hb : ∀ i, i < n → B i < 4) : ∀ (c i : Nat), c + i = n → eqU A B i = true → x_X8_alike 81 [] [some (zr 8 0), some (zi (nI 1)), some (zi (nI i))] w = some (nI (if eqU A B n = true then 1 else 0), w) := by
  intro c
  induction c with
  | zero =>
    intro i hi he
    rw [e_X8_alike_81, h18]
    simp (disch := omega) only [jle, jl, jeq0, Nat.reduceEqDiff, ↓reduceIte]
    rw [if_pos (by omega), show n = i by omega, he]
    rfl
  | succ c ih =>
    intro i hi he
    have hin : i < n := by omega
    have h1 := ha i hin
    have h2 := hb i hin
    rw [e_X8_alike_81, h18]
    simp (disch := omega) only [jle, jl, jeq0, Nat.reduceEqDiff, ↓reduceIte, jchk, jcl, hA i hin, hB i hin, jeq, nI_add]
    rw [if_neg (by omega)]
    by_cases e : A i = B i
    · rw [if_pos e]
      exact ih (i + 1) (by omega) (by rw [eqU, he]; simp [e])
    · rw [if_neg e, eqU_no e hin, e_X8_alike_81, h18]
      simp (disch := omega) only [jle, jl, jeq0, ↓reduceIte, ite_self]
      rfl
theorem u_cpy_lp {n : Nat} {A : Nat → Nat} (hn : n ≤ 24) : ∀ (c i : Nat) (w : Wd), c + i = n → w.1 8 0 18 = nI n → (∀ j, j < n → w.1 39 0 j = nI (A j)) → (∀ j, j < i → w.1 41 0 j = nI (A j)) →
    ∃ w', x_X8_alike 28 [] [some (zr 8 0), some (zi (nI i)), none] w = x_X8_alike 28 [] [some (zr 8 0), some (zi (nI n)), none] w' ∧ Fr (S1 41 0) w w' ∧ ∀ j, j < n → w'.1 41 0 j = nI (A j) := by
  intro c
  induction c with
  | zero =>
    intro i w hi h18 h39 h41
    have : i = n := by omega
    subst this
    exact ⟨w, rfl, Fr.rf, h41⟩
  | succ c ih =>
    intro i w hi h18 h39 h41
    have f1 : Fr (S1 41 0) w (wI w 41 0 i (nI (A i))) := Fr.rf.wI (by decide)
    obtain ⟨w', h1, h2, h3⟩ := ih (i + 1) (wI w 41 0 i (nI (A i))) (by omega) (by rw [(f1 8 0 rfl).1]; exact h18) (fun j hj => by rw [(f1 39 0 rfl).1]; exact h39 j hj) (fun j hj => by
      rw [jw1]
      by_cases e : j = i
      · rw [if_pos ⟨rfl, rfl, e⟩, e]
      · rw [if_neg (fun z => e z.2.2)]
        exact h41 j (by omega))
    refine ⟨w', ?_, f1.tr h2, h3⟩
    rw [← h1, e_X8_alike_28, h18]
    simp (disch := omega) only [jle, jl, jchk, jcl, h39 i (by omega), nI_add]
    rw [if_neg (by omega)]
theorem RR_fr {T : Nat → Nat → Bool} {w w' : Wd} {k n : Nat} {R : Nat → Nat} (hf : Fr T w w') (h1 : T 3 k = false) (h2 : T 13 k = false) (h : RR w k n R) : RR w' k n R := ⟨by rw [(hf 3 k h1).1]; exact h.1, fun i hi => by rw [(hf 13 k h2).1]; exact h.2 i hi⟩
theorem a2_alike : A2 (f_X7_alike 0) (f_X8_alike 0) := fun g w wm hG hC hM => by
  obtain ⟨v, h1, h2, h3⟩ := q_faultR hG.1 hC.1.1 hM.1
  rcases h3 with ⟨rfl, hO⟩ | ⟨a, ha, rfl⟩
  · obtain ⟨w1, w2, a1, a2, a3, a4, a5, a6⟩ := v_padRun hG hC hO
    obtain ⟨m1, b1, b2, b3, b4, b5⟩ := u_takesPad hG.2.1.1 hO (MI_RQ hM) hM.1
    have hM1 : MI m1 g := MI_u (b2.sub sub_STk) (b3.1 2 (by decide)) (b3.1 4 (by decide)) (b3.1 7 (by decide)) hM
    have bm : Fr SMd wm m1 := b2.sub (sub_tr sub_STk sub_SU)
    cases hv : vb g.2.1.1 g.2.1.2.1 (padR g.1.2) g.1.1 with
    | false =>
      rw [hv] at a6 b1
      refine ⟨Int32.ofInt 0, w2, g, m1, ?_, a3.sub sub_SQ, hG, a4, ?_, bm, hM1⟩
      · rw [e_X7_alike, h1, joc, if_pos rfl, a1, joc, a2, joc, a6, joc, if_pos (by rfl)]
      · rw [e_X8_alike]
        simp only [jl]
        rw [h2, joc, if_pos rfl, b1, joc, if_pos (by rfl)]
    | true =>
      rw [hv] at a6 b1
      obtain ⟨hW, hE, hN, hV⟩ := hG.2.1
      have hVn : VR g.2.1.1 g.2.1.2.1 g.1.1 (padR g.1.2) := ⟨hO.1, fun i hi => padR_lt hO hi, hv⟩
      obtain ⟨w3, c1, c2, c3⟩ := v_lookR hW hVn a4.1.2.1.1 a5
      obtain ⟨w4, d1, d2, d3⟩ := v_writeLeast hW hVn (k := 11) c3
      have r4 : RP w4 0 g.2.1.1 g.2.1.2.1 := d2.RP rfl rfl (c2.RP rfl rfl a4.1.2.1.1)
      have k4 : RR w4 0 g.2.1.2.2.1 g.2.1.2.2.2 := RR_fr d2 rfl rfl (RR_fr c2 rfl rfl a4.1.2.1.2)
      obtain ⟨w5, e1, e2, e3⟩ := v_lookR hW hV r4 k4
      obtain ⟨w6, f1, f2, f3⟩ := v_writeLeast hW hV (k := 10) e3
      have l6 : RR w6 11 g.1.1 (LR g.2.1.2.1 (padR g.1.2) g.1.1) := RR_fr f2 rfl rfl (RR_fr e2 rfl rfl d3)
      have hs := v_sameR f3 l6 hV.1 hO.1 (fun i hi => LR_lt hV hi) (fun i hi => LR_lt hVn hi)
      have q11 : sub (SRg 11) SQ := sub_S2 (sub_S1 rfl) (sub_S1 rfl)
      have q10 : sub (SRg 10) SQ := sub_S2 (sub_S1 rfl) (sub_S1 rfl)
      have fall : Fr SQ w2 w6 := (c2.sub sub_SO).tr ((d2.sub q11).tr ((e2.sub sub_SO).tr (f2.sub q10)))
      have hCS : CS w6 := CS_fr f2 rfl rfl rfl rfl rfl rfl (CS_fr e2 rfl rfl rfl rfl rfl rfl (CS_fr d2 rfl rfl rfl rfl rfl rfl (CS_fr c2 rfl rfl rfl rfl rfl rfl a4.2)))
      obtain ⟨m2, g1, g2, g3⟩ := u_laysLeast hW hVn ⟨b2.RQ rfl (MI_RQ hM), b4, b5 hv⟩
      have h18 : m2.1 8 0 18 = nI g.1.1 := by rw [(g2 8 0 rfl).1]; exact b4.1
      obtain ⟨m3, i1, i2, i3⟩ := u_cpy_lp (A := LR g.2.1.2.1 (padR g.1.2) g.1.1) hO.1 g.1.1 0 m2 rfl h18 g3 (fun j hj => by omega)
      have fm23 : Fr (S2 S3940 (S1 41 0)) m1 m3 := (g2.mono fun t i h => S2_l h).tr (i2.mono fun t i h => S2_r h)
      have hM3 : MI m3 g := MI_fr fm23 rfl rfl rfl rfl (by rw [(fm23 8 0 rfl).1]) (by rw [(fm23 8 0 rfl).1]) (by rw [(fm23 8 0 rfl).1]) hM1
      obtain ⟨m4, m5, j1, j2, j3, j4, j5, j6⟩ := u_keptLeast hW hV (MI_RQ hM3) (MI_KQ hM3)
      have sm : sub (S2 STk S3940) SU := sub_S2 sub_STk (sub_S2 (sub_S1 rfl) (sub_S1 rfl))
      have hM5 : MI m5 g := MI_u (j3.sub sm) (j4.1 2 (by decide)) (j4.1 4 (by decide)) (j4.1 7 (by decide)) hM3
      have h41 : ∀ i, i < g.1.1 → m5.1 41 0 i = nI (LR g.2.1.2.1 (padR g.1.2) g.1.1 i) := fun i hi => by rw [(j3 41 0 rfl).1]; exact i3 i hi
      have e28 : x_X8_alike 28 [] [some (zr 8 0), some (zi (nI 0)), none] m2 = (if g.2.1.2.2.1 = g.1.1 then x_X8_alike 81 [] [some (zr 8 0), some (zi (nI 1)), some (zi (nI 0))] m5 else x_X8_alike 81 [] [some (zr 8 0), some (zi (nI 0)), some (zi (nI 0))] m5) := by
        have h18' : m3.1 8 0 18 = nI g.1.1 := by rw [(i2 8 0 rfl).1]; exact h18
        have hn := hV.1
        have hp := hO.1
        rw [i1, e_X8_alike_28, h18']
        simp (disch := omega) only [jle, Nat.le_refl, ↓reduceIte, j1, j2, joc, j5, hM5.1.1, jeq, jl]
      refine ⟨nI (if (decide (g.2.1.2.2.1 = g.1.1) && eqU (LR g.2.1.2.1 g.2.1.2.2.2 g.2.1.2.2.1) (LR g.2.1.2.1 (padR g.1.2) g.1.1) g.2.1.2.2.1) = true then 1 else 0), w6, g, m5, ?_, (a3.tr fall).sub sub_SQ, hG, ⟨CJ_q fall a4.1, hCS⟩, ?_, ?_, hM5⟩
      · rw [e_X7_alike, h1, joc, if_pos rfl, a1, joc, a2, joc, a6, joc, if_neg (show ¬ nI (if true = true then 1 else 0) = (0 : Int32) by decide), c1, joc, d1, joc, e1, joc, f1, joc, hs, joc]
        simp only [j01, jl]
        cases (decide (g.2.1.2.2.1 = g.1.1) && eqU (LR g.2.1.2.1 g.2.1.2.2.2 g.2.1.2.2.1) (LR g.2.1.2.1 (padR g.1.2) g.1.1) g.2.1.2.2.1) <;> rfl
      · rw [e_X8_alike]
        simp only [jl]
        rw [h2, joc, if_pos rfl, b1, joc, if_neg (show ¬ nI (if true = true then 1 else 0) = (0 : Int32) by decide), g1, joc, e28]
        by_cases e : g.2.1.2.2.1 = g.1.1
        · rw [if_pos e, u_same_lp hV.1 j5 j6 (fun i hi => LR_lt hV hi) (fun i hi => h41 i (by omega)) (fun i hi => LR_lt hVn (by omega)) g.2.1.2.2.1 0 rfl rfl]
          simp [e]
        · rw [if_neg e, e_X8_alike_81, j5]
          have hn := hV.1
          simp (disch := omega) only [jle, jl, jeq0, ↓reduceIte, ite_self]
          simp [e]
      · exact bm.tr ((fm23.sub (sub_S2 (sub_S2 (sub_S1 rfl) (sub_S1 rfl)) (sub_S1 rfl))).tr (j3.sub (sub_tr sm sub_SU)))
  · have hne : ¬ nI a = Int32.ofInt (-6) := by rw [jm6 (by omega)]; exact id
    refine ⟨Int32.ofInt (-3), w, g, wm, ?_, Fr.rf, hG, hC, ?_, Fr.rf, hM⟩
    · rw [e_X7_alike, h1, joc, if_neg hne]
    · rw [e_X8_alike]
      simp only [jl]
      rw [h2, joc, if_neg hne]
end AK
