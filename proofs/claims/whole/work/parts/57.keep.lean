/-! keep alike: a run from the pad. -/
section KP
variable {p : Nat} {S : Nat → Nat} {L : Nat → Nat} {P : Nat → Nat → Nat}
def padR (S : Nat → Nat) (i : Nat) : Nat := S i - 48
theorem padR_lt (hO : okR p S) {i : Nat} (hi : i < p) : padR S i < 4 := by
  have := hO.2 i hi
  unfold dg at this
  rw [Bool.and_eq_true] at this
  have h1 := of_decide_eq_true this.1
  have h2 := of_decide_eq_true this.2
  unfold padR
  omega
theorem PX_fr {T : Nat → Nat → Bool} {w w' : Wd} (hf : Fr T w w') (h1 : T 1 0 = false) (h2 : T 10 0 = false) (h : PX w p S) : PX w' p S := ⟨by rw [(hf 1 0 h1).1]; exact h.1, fun i hi => by rw [(hf 10 0 h2).1]; exact h.2 i hi⟩
theorem v_readRun (hS : SK p S) (hO : okR p S) {w : Wd} (hX : PX w p S) : ∃ w', f_X3_readRun 9 0 w = some w' ∧ Fr (SRg 9) w w' ∧ RR w' 9 p (padR S) := by
  have lp : ∀ (m i : Nat) (w : Wd), m + i = p → PX w p S → RR w 9 i (padR S) → ∃ w', x_X3_readRun 6 [] [some (zr 3 9), some (zr 1 0), some (zi (nI i))] w = some w' ∧ Fr (SRg 9) w w' ∧ RR w' 9 p (padR S) := by
    have h24 := hO.1
    intro m
    induction m with
    | zero =>
      intro i w hm hX hR
      refine ⟨w, ?_, Fr.rf, by rw [show p = i by omega]; exact hR⟩
      rw [e_X3_readRun_6, e_X1_length, hX.1, joc]
      simp (disch := omega) only [jle]
      rw [if_pos (by omega)]
    | succ m ih =>
      intro i w hm hX hR
      have hi : i < p := by omega
      obtain ⟨w1, a1, a2, a3⟩ := v_append (x := S i - 48) hR (by omega) rfl
      obtain ⟨w', h1, h2, h3⟩ := ih (i + 1) w1 (by omega) (PX_fr a2 rfl rfl hX) a3
      refine ⟨w', ?_, a2.tr h2, h3⟩
      rw [← h1, e_X3_readRun_6, e_X1_length, hX.1, joc]
      simp (disch := omega) only [jle, v_digitAt hS hX hi (hO.2 i hi), joc, a1, jl, nI_add]
      rw [if_neg (by omega)]
  have f1 : Fr (SRg 9) w (wI w 3 9 1 (nI 0)) := Fr.rf.wI (SRg_3 9)
  obtain ⟨w', h1, h2, h3⟩ := lp p 0 (wI w 3 9 1 (nI 0)) rfl (PX_fr f1 rfl rfl hX) ⟨by rw [jw1, if_pos ⟨rfl, rfl, rfl⟩], fun i hi => by omega⟩
  refine ⟨w', ?_, f1.tr h2, h3⟩
  rw [← h1, e_X3_readRun, e_X3_clear, joc]
  simp only [jl]
theorem u_takesPad (hW : WP L P) (hO : okR p S) {w : Wd} (hRQ : RQ w 0 0 L P) (hM : PM w p S) : ∃ w', f_X8_takesPad 0 w = some (nI (if vb L P (padR S) p = true then 1 else 0), w') ∧ Fr STk w w' ∧ S18 w w' ∧ RM w' p (padR S) ∧ (vb L P (padR S) p = true → WM w' p (padR S)) := by
  have h24 := hO.1
  have lp : ∀ (m i : Nat) (w : Wd), m + i = p → PM w p S → w.1 8 0 18 = nI p → (∀ j, j < i → w.1 37 0 j = nI (padR S j)) → ∃ w', x_X8_takesPad 10 [] [some (zr 8 0), some (zi (nI i))] w = x_X8_takesPad 10 [] [some (zr 8 0), some (zi (nI p))] w' ∧ Fr S37 w w' ∧ RM w' p (padR S) := by
    intro m
    induction m with
    | zero =>
      intro i w hm hX h18 h37
      have : i = p := by omega
      subst this
      exact ⟨w, rfl, Fr.rf, h18, h37⟩
    | succ m ih =>
      intro i w hm hX h18 h37
      have hi : i < p := by omega
      have hd := hO.2 i hi
      unfold dg at hd
      rw [Bool.and_eq_true] at hd
      have h48 := of_decide_eq_true hd.1
      have f1 : Fr S37 w (wI w 37 0 i (nI (padR S i))) := Fr.rf.wI (by decide)
      obtain ⟨w', h1, h2, h3⟩ := ih (i + 1) (wI w 37 0 i (nI (padR S i))) (by omega) ⟨by rw [(f1 8 0 rfl).1]; exact hX.1, fun j hj => by rw [(f1 31 0 rfl).1]; exact hX.2 j hj⟩ (by rw [(f1 8 0 rfl).1]; exact h18) (fun j hj => by
        rw [jw1]
        by_cases e : j = i
        · rw [if_pos ⟨rfl, rfl, e⟩, e]
        · rw [if_neg (fun z => e z.2.2)]
          exact h37 j (by omega))
      refine ⟨w', ?_, f1.tr h2, h3⟩
      rw [← h1, e_X8_takesPad_10, hX.1]
      simp (disch := omega) only [jle, jl, jchk, jcl, hX.2 i hi, jsub, nI_add]
      rw [if_neg (by omega)]
      rfl
  have f0 : Fr (S1 8 0) w (wI w 8 0 18 (nI p)) := Fr.rf.wI (by decide)
  obtain ⟨w1, a1, a2, a3⟩ := lp p 0 (wI w 8 0 18 (nI p)) rfl ⟨by rw [jw1, if_neg (by omega)]; exact hM.1, fun j hj => by rw [(f0 31 0 rfl).1]; exact hM.2 j hj⟩ (by rw [jw1, if_pos ⟨rfl, rfl, rfl⟩]) (fun j hj => by omega)
  obtain ⟨w2, b1, b2, b3⟩ := u_goesAll hW h24 (fun i hi => padR_lt hO hi) (a2.RQ rfl (f0.RQ rfl hRQ)) a3
  refine ⟨w2, ?_, (f0.mono fun t i h => S2_r (S2_r h)).tr ((a2.mono fun t i h => S2_l (S2_r h)).tr (b2.mono fun t i h => S2_l h)), ⟨fun j hj => ?_, ?_⟩, ⟨by rw [(b2 8 0 rfl).1]; exact a3.1, fun j hj => by rw [(b2 37 0 rfl).1]; exact a3.2 j hj⟩, b3⟩
  · have e7 : w1.1 8 0 7 = nI p := by
      rw [(a2 8 0 rfl).1, jw1, if_neg (by omega)]
      exact hM.1
    rw [e_X8_takesPad, hM.1]
    simp only [jl]
    rw [a1, e_X8_takesPad_10, e7, b1]
    simp (disch := omega) only [jle, Nat.le_refl, ↓reduceIte, joc]
    cases vb L P (padR S) p
    · exact jzb0
    · exact jzb1
  · rw [(b2 8 0 rfl).1, (a2 8 0 rfl).1, jw1, if_neg (fun z => hj z.2.2)]
  · rw [(b2 8 0 rfl).2, (a2 8 0 rfl).2]
    rfl
theorem sub_SR9 : sub (SRg 9) SQ := sub_S2 (sub_S1 rfl) (sub_S1 rfl)
/-- the class reads the pad's run, and looks at its stands -/
theorem v_padRun {g : Gst} {w : Wd} (hG : GI g) (hC : CI w g) (hO : okR g.1.1 g.1.2) : ∃ w1 w2, f_X3_readRun 9 0 w = some w1 ∧ f_X5_lookAt 0 0 w1 = some w2 ∧ Fr SQ w w2 ∧ CI w2 g ∧ RR w2 9 g.1.1 (padR g.1.2) ∧ f_X5_canRun 0 9 w2 = some (nI (if vb g.2.1.1 g.2.1.2.1 (padR g.1.2) g.1.1 = true then 1 else 0), w2) := by
  obtain ⟨w1, a1, a2, a3⟩ := v_readRun hG.1 hO hC.1.1
  have hC1 : CI w1 g := ⟨CJ_q (a2.sub sub_SR9) hC.1, CS_fr a2 rfl rfl rfl rfl rfl rfl hC.2⟩
  have hl := look hG hC1
  obtain ⟨hW, hE, hN, hV⟩ := hG.2.1
  have hx : ∀ w2, f_X5_lookAt 0 0 w1 = some w2 → Fr SSp w1 w2 := fun w2 h => by
    rcases hC1.2 with h0 | ⟨L, P, a, b, c, d⟩
    · obtain ⟨w', h1, h2, -⟩ := v_lookAt hW hE hN (k := 0) (by decide) hC1.1.2.1.1 (L' := g.2.1.1) (P' := g.2.1.2.1) (Or.inl h0)
      rw [h1] at h
      cases h
      exact h2
    · obtain ⟨w', h1, h2, -⟩ := v_lookAt hW hE hN (k := 0) (by decide) hC1.1.2.1.1 (L' := L) (P' := P) (Or.inr ⟨c, a, b⟩)
      rw [h1] at h
      cases h
      exact h2
  obtain ⟨w2, b1, b2, b3, b4, -⟩ := hl
  have fs := hx w2 b1
  have hR2 : RR w2 9 g.1.1 (padR g.1.2) := ⟨by rw [(fs 3 9 rfl).1]; exact a3.1, fun i hi => by rw [(fs 13 9 rfl).1]; exact a3.2 i hi⟩
  exact ⟨w1, w2, a1, b1, (a2.sub sub_SR9).tr b2, b3, hR2, v_canRun hW b4 hO.1 hR2 (fun i hi => padR_lt hO hi)⟩
theorem u_keep_lp {n : Nat} {R : Nat → Nat} (hn : n ≤ 24) : ∀ (m i : Nat) (w : Wd), m + i = n → w.1 8 0 7 = nI n → (∀ j, j < n → w.1 37 0 j = nI (R j)) → w.1 30 0 28 = nI n → (∀ j, j < i → w.1 30 0 (29 + j) = nI (R j)) →
    ∃ w', x_X8_keep 44 [] [some (zr 8 0), some (zi (nI i))] w = some (nI n, wI w' 8 0 7 (nI 0)) ∧ Fr (S1 30 0) w w' ∧ (∀ j, j < 29 → w'.1 30 0 j = w.1 30 0 j) ∧ ∀ j, j < n → w'.1 30 0 (29 + j) = nI (R j) := by
  intro m
  induction m with
  | zero =>
    intro i w hm h7 h37 h28 h29
    refine ⟨w, ?_, Fr.rf, fun _ _ => rfl, fun j hj => h29 j (by omega)⟩
    rw [e_X8_keep_44, h7]
    have e : (wI w 8 0 7 (nI 0)).1 30 0 28 = nI n := by rw [jw1, if_neg (by omega)]; exact h28
    simp (disch := omega) only [jle, jl, jchk, jcl, e]
    rw [if_pos (by omega)]
  | succ m ih =>
    intro i w hm h7 h37 h28 h29
    have f1 : Fr (S1 30 0) w (wI w 30 0 (29 + i) (nI (R i))) := Fr.rf.wI (by decide)
    obtain ⟨w', a1, a2, a3, a4⟩ := ih (i + 1) (wI w 30 0 (29 + i) (nI (R i))) (by omega) (by rw [(f1 8 0 rfl).1]; exact h7) (fun j hj => by rw [(f1 37 0 rfl).1]; exact h37 j hj) (by rw [jw1, if_neg (by omega)]; exact h28) (fun j hj => by
      rw [jw1]
      by_cases e : j = i
      · rw [if_pos ⟨rfl, rfl, by rw [e]⟩, e]
      · rw [if_neg (by omega)]
        exact h29 j (by omega))
    refine ⟨w', ?_, f1.tr a2, fun j hj => by rw [a3 j hj, jw1, if_neg (by omega)], a4⟩
    rw [← a1, e_X8_keep_44, h7]
    simp (disch := omega) only [jle, jl, jchk, jcl, nI_add, h37 i (by omega)]
    rw [if_neg (by omega)]
theorem a2_keep : A2 (f_X7_keep 0) (f_X8_keep 0) := fun g w wm hG hC hM => by
  obtain ⟨v, h1, h2, h3⟩ := q_faultR hG.1 hC.1.1 hM.1
  rcases h3 with ⟨rfl, hO⟩ | ⟨a, ha, rfl⟩
  · obtain ⟨w1, w2, a1, a2, a3, a4, a5, a6⟩ := v_padRun hG hC hO
    obtain ⟨m1, b1, b2, b3, b4, b5⟩ := u_takesPad hG.2.1.1 hO (MI_RQ hM) hM.1
    have hM1 : MI m1 g := MI_u (b2.sub sub_STk) (b3.1 2 (by decide)) (b3.1 4 (by decide)) (b3.1 7 (by decide)) hM
    have bm : Fr SMd wm m1 := b2.sub (sub_tr sub_STk sub_SU)
    cases hv : vb g.2.1.1 g.2.1.2.1 (padR g.1.2) g.1.1 with
    | false =>
      rw [hv] at a6 b1
      refine ⟨Int32.ofInt (-5), w2, g, m1, ?_, a3.sub sub_SQ, hG, a4, ?_, bm, hM1⟩
      · rw [e_X7_keep, h1, joc, if_pos rfl, a1, joc, a2, joc, a6, joc, if_pos (by rfl)]
      · rw [e_X8_keep]
        simp only [jl]
        rw [h2, joc, if_pos rfl, b1, joc, if_pos (by rfl)]
    | true =>
      rw [hv] at a6 b1
      have hVn : VR g.2.1.1 g.2.1.2.1 g.1.1 (padR g.1.2) := ⟨hO.1, fun i hi => padR_lt hO hi, hv⟩
      have hGr := recG_GI hG
      obtain ⟨w3, c1, c2, c3⟩ := v_record hG a4.1
      have hC3 := CS_h c2 a4.2
      have hR3 : RR w3 9 g.1.1 (padR g.1.2) := ⟨by rw [(c2 3 9 rfl).1]; exact a5.1, fun i hi => by rw [(c2 13 9 rfl).1]; exact a5.2 i hi⟩
      obtain ⟨w4, d1, d2, d3⟩ := v_copyR (k0 := 0) hR3 hO.1
      have f5 : Fr (S1 1 0) w4 (wI w4 1 0 1 (nI 0)) := Fr.rf.wI (by decide)
      have f45 : Fr (S2 (SRg 0) (S1 1 0)) w3 (wI w4 1 0 1 (nI 0)) := (d2.mono fun t i h => S2_l h).tr (f5.mono fun t i h => S2_r h)
      have s45 : sub (S2 (SRg 0) (S1 1 0)) SCl := sub_S2 (sub_S2 (sub_S1 rfl) (sub_S1 rfl)) (sub_S1 rfl)
      obtain ⟨m2, e1, e2, e3, e4, e5⟩ := u_records (k1 := 0) (Or.inl rfl) hG hM1.2.1 hM1.2.2.1.1 hM1.2.2.1.2
      have hM2 := MI_rec hM1 e2 e3 e4 e5
      have f6 : Fr (S1 30 0) m2 (wI m2 30 0 28 (nI g.1.1)) := Fr.rf.wI (by decide)
      obtain ⟨m3, k1, k2, k3, k4⟩ := u_keep_lp (n := g.1.1) (R := padR g.1.2) hO.1 g.1.1 0 (wI m2 30 0 28 (nI g.1.1)) rfl (by rw [(f6 8 0 rfl).1]; exact hM2.1.1) (fun j hj => by rw [(f6 37 0 rfl).1, (e2 37 0 rfl).1]; exact b4.2 j hj) (by rw [jw1, if_pos ⟨rfl, rfl, rfl⟩]) (fun j hj => by omega)
      have f7 : Fr (S1 8 0) m3 (wI m3 8 0 7 (nI 0)) := Fr.rf.wI (by decide)
      have f67 : Fr (S2 (S1 30 0) (S1 8 0)) m2 (wI m3 8 0 7 (nI 0)) := ((f6.tr k2).mono fun t i h => S2_l h).tr (f7.mono fun t i h => S2_r h)
      have c8 : ∀ j, j ≠ 7 → (wI m3 8 0 7 (nI 0)).1 8 0 j = m2.1 8 0 j := fun j hj => by
        rw [jw1, if_neg (fun z => hj z.2.2), ((f6.tr k2) 8 0 rfl).1]
      have c30 : ∀ j, j < 28 → (wI m3 8 0 7 (nI 0)).1 30 0 j = m2.1 30 0 j := fun j hj => by
        rw [jw1, if_neg (by omega), k3 j (by omega), jw1, if_neg (by omega)]
      refine ⟨nI g.1.1, wI w4 1 0 1 (nI 0), ((0, g.1.2), (g.2.1.1, g.2.1.2.1, g.1.1, padR g.1.2), (recG g).2.2), wI m3 8 0 7 (nI 0), ?_, ?_, ⟨⟨Nat.zero_le _, fun i hi => absurd hi (Nat.not_lt_zero _)⟩, ⟨hG.2.1.1, hG.2.1.2.1, hG.2.1.2.2.1, hVn⟩, hGr.2.2.1, hGr.2.2.2⟩, ⟨⟨⟨by rw [jw1, if_pos ⟨rfl, rfl, rfl⟩], fun i hi => absurd hi (Nat.not_lt_zero _)⟩, ⟨f45.RP rfl rfl c3.2.1.1, ⟨by rw [(f5 3 0 rfl).1]; exact d3.1, fun i hi => by rw [(f5 13 0 rfl).1]; exact d3.2 i hi⟩⟩, ⟨by rw [(f45 0 0 rfl).1]; exact c3.2.2.1.1, by rw [(f45 0 0 rfl).1]; exact c3.2.2.1.2.1, fun i hi => ?_⟩, fun j hj => ⟨by rw [(f45 22 0 rfl).1]; exact (c3.2.2.2 j hj).1, fun hb => ?_⟩⟩, CS_fr f45 rfl rfl rfl rfl rfl rfl hC3⟩, ?_, ?_, ?_⟩
      · rw [e_X7_keep, h1, joc, if_pos rfl, a1, joc, a2, joc, a6, joc, if_neg (show ¬ nI (if true = true then 1 else 0) = (0 : Int32) by decide), c1, joc, d1, joc, e_X1_clear, joc]
        have : (wI w4 1 0 1 (Int32.ofInt 0)).1 3 0 1 = nI g.1.1 := by rw [jw1, if_neg (by omega)]; exact d3.1
        rw [e_X3_length, joc, this]
        rfl
      · exact ((a3.sub sub_SQ).tr (c2.sub sub_SHs)).tr (f45.sub s45)
      · have hm := Nat.mod_lt ((recG g).2.2.1.2.2 + i) (show 0 < 6 by decide)
        have q : ∀ k, 0 < k → S2 (SRg 0) (S1 1 0) 3 k = false ∧ S2 (SRg 0) (S1 1 0) 13 k = false := fun k hk => by
          have e : Nat.beq k 0 = false := by
            cases hh : Nat.beq k 0 with
            | false => rfl
            | true => have := Nat.eq_of_beq_eq_true hh; omega
          unfold SRg S2 S1
          rw [e]
          exact ⟨rfl, rfl⟩
        exact XS_fr f45 rfl rfl (q _ (by omega)).1 (q _ (by omega)).2 (c3.2.2.1.2.2 i hi)
      · have q : ∀ k, 0 < k → S2 (SRg 0) (S1 1 0) 3 k = false ∧ S2 (SRg 0) (S1 1 0) 13 k = false := fun k hk => by
          have e : Nat.beq k 0 = false := by
            cases hh : Nat.beq k 0 with
            | false => rfl
            | true => have := Nat.eq_of_beq_eq_true hh; omega
          unfold SRg S2 S1
          rw [e]
          exact ⟨rfl, rfl⟩
        exact XS_fr f45 rfl rfl (q _ (by omega)).1 (q _ (by omega)).2 ((c3.2.2.2 j hj).2 hb)
      · rw [e_X8_keep]
        simp only [jl]
        rw [h2, joc, if_pos rfl, b1, joc, if_neg (show ¬ nI (if true = true then 1 else 0) = (0 : Int32) by decide), e1, joc]
        simp (disch := omega) only [jchk, jcl, hM2.1.1]
        exact k1
      · exact bm.tr ((e2.sub sub_SRc).tr (f67.sub (sub_S2 (sub_S1 rfl) (sub_S1 rfl))))
      · refine ⟨⟨by rw [jw1, if_pos ⟨rfl, rfl, rfl⟩], fun i hi => absurd hi (Nat.not_lt_zero _)⟩, ⟨⟨fun t ht => ?_, fun t s ht hs => ?_⟩, ?_, fun j hj => ?_⟩, ⟨by rw [c8 2 (by decide)]; exact hM2.2.2.1.1, fun i hi => MS_fr f67 rfl (hM2.2.2.1.2 i hi)⟩, by rw [c8 4 (by decide)]; exact hM2.2.2.2.1, fun j hj hb => MS_fr f67 rfl (hM2.2.2.2.2 j hj hb)⟩
        · rw [c30 _ (by omega)]; exact hM2.2.1.1.1 t ht
        · have := (hG.2.1.1 t ht).1
          have hs : s < g.2.1.1 t := hs
          rw [c30 _ (by omega)]
          exact hM2.2.1.1.2 t s ht hs
        · rw [Nat.zero_add, jw1, if_neg (by omega), k3 28 (by decide), jw1, if_pos ⟨rfl, rfl, rfl⟩]
        · rw [Nat.zero_add, jw1, if_neg (by omega)]
          exact k4 j hj
  · have hne : ¬ nI a = Int32.ofInt (-6) := by rw [jm6 (by omega)]; exact id
    refine ⟨Int32.ofInt (-3), w, g, wm, ?_, Fr.rf, hG, hC, ?_, Fr.rf, hM⟩
    · rw [e_X7_keep, h1, joc, if_neg hne]
    · rw [e_X8_keep]
      simp only [jl]
      rw [h2, joc, if_neg hne]
end KP
