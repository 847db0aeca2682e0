/-! CHANGES: program, keep, undo, save, restore; alike. -/
section KC
variable {g : Gst}
/-! keep -/
def kepG (g : Gst) : Gst := ((0, g.1.2), (g.2.1.1, g.2.1.2.1, g.1.1, padR g.1.2), (recG g).2.2)
theorem kepG_GI (hG : GI g) (hO : okR g.1.1 g.1.2) (hv : vb g.2.1.1 g.2.1.2.1 (padR g.1.2) g.1.1 = true) : GI (kepG g) :=
  ⟨⟨Nat.zero_le _, fun i hi => absurd hi (Nat.not_lt_zero _)⟩, ⟨hG.2.1.1, hG.2.1.2.1, hG.2.1.2.2.1, ⟨hO.1, fun i hi => padR_lt hO hi, hv⟩⟩, (recG_GI hG).2.2.1, (recG_GI hG).2.2.2⟩
theorem k_keep (hG : GI g) (hO : okR g.1.1 g.1.2) (hv : vb g.2.1.1 g.2.1.2.1 (padR g.1.2) g.1.1 = true) : OK (f_X7_keep 0) g (nI g.1.1) (kepG g) := fun w hC => by
  have h1 := v_faultR_ok hG.1 hC.1.1 hO
  obtain ⟨w1, w2, a1, a2, a3, a4, a5, a6⟩ := v_padRun hG hC hO
  rw [hv] at a6
  obtain ⟨w3, c1, c2, c3⟩ := v_record hG a4.1
  have hC3 := CS_h c2 a4.2
  have hR3 : RR w3 9 g.1.1 (padR g.1.2) := ⟨by rw [(c2 3 9 rfl).1]; exact a5.1, fun i hi => by rw [(c2 13 9 rfl).1]; exact a5.2 i hi⟩
  obtain ⟨w4, d1, d2, d3⟩ := v_copyR (k0 := 0) hR3 hO.1
  have f5 : Fr (S1 1 0) w4 (wI w4 1 0 1 (nI 0)) := Fr.rf.wI (by decide)
  have f45 : Fr (S2 (SRg 0) (S1 1 0)) w3 (wI w4 1 0 1 (nI 0)) := (d2.mono fun t i h => S2_l h).tr (f5.mono fun t i h => S2_r h)
  have s45 : sub (S2 (SRg 0) (S1 1 0)) SCl := sub_S2 (sub_S2 (sub_S1 rfl) (sub_S1 rfl)) (sub_S1 rfl)
  have q : ∀ k, 0 < k → S2 (SRg 0) (S1 1 0) 3 k = false ∧ S2 (SRg 0) (S1 1 0) 13 k = false := fun k hk => by
    have e : Nat.beq k 0 = false := by
      cases hh : Nat.beq k 0 with
      | false => rfl
      | true => have := Nat.eq_of_beq_eq_true hh; omega
    unfold SRg S2 S1
    rw [e]
    exact ⟨rfl, rfl⟩
  refine ⟨wI w4 1 0 1 (nI 0), ?_, ((a3.sub sub_SQ).tr (c2.sub sub_SHs)).tr (f45.sub s45), ⟨⟨⟨by rw [jw1, if_pos ⟨rfl, rfl, rfl⟩]; rfl, fun i hi => absurd hi (Nat.not_lt_zero _)⟩, ⟨f45.RP rfl rfl c3.2.1.1, ⟨by rw [(f5 3 0 rfl).1]; exact d3.1, fun i hi => by rw [(f5 13 0 rfl).1]; exact d3.2 i hi⟩⟩, ⟨by rw [(f45 0 0 rfl).1]; exact c3.2.2.1.1, by rw [(f45 0 0 rfl).1]; exact c3.2.2.1.2.1, fun i hi => ?_⟩, fun j hj => ⟨by rw [(f45 22 0 rfl).1]; exact (c3.2.2.2 j hj).1, fun hb => ?_⟩⟩, CS_fr f45 rfl rfl rfl rfl rfl rfl hC3⟩⟩
  · rw [e_X7_keep, h1, joc, if_pos rfl, a1, joc, a2, joc, a6, joc, if_neg (show ¬ nI (if true = true then 1 else 0) = (0 : Int32) by decide), c1, joc, d1, joc, e_X1_clear, joc]
    have : (wI w4 1 0 1 (Int32.ofInt 0)).1 3 0 1 = nI g.1.1 := by rw [jw1, if_neg (by omega)]; exact d3.1
    rw [e_X3_length, joc, this]
    rfl
  · have hm := Nat.mod_lt ((recG g).2.2.1.2.2 + i) (show 0 < 6 by decide)
    exact XS_fr f45 rfl rfl (q _ (by omega)).1 (q _ (by omega)).2 (c3.2.2.1.2.2 i hi)
  · exact XS_fr f45 rfl rfl (q _ (by omega)).1 (q _ (by omega)).2 ((c3.2.2.2 j hj).2 hb)
theorem k_keep_no (hG : GI g) (hO : ¬ okR g.1.1 g.1.2) : OK (f_X7_keep 0) g (Int32.ofInt (-3)) g := OK_same fun w hC => by
  obtain ⟨v, h1, h2⟩ := v_faultR_no hG.1 hC.1.1 hO
  rw [e_X7_keep, h1, joc, if_neg h2]
/-! alike -/
theorem k_alike (hG : GI g) (hO : okR g.1.1 g.1.2) (hv : vb g.2.1.1 g.2.1.2.1 (padR g.1.2) g.1.1 = true) : OK (f_X7_alike 0) g (nI (if (decide (g.2.1.2.2.1 = g.1.1) && eqU (LR g.2.1.2.1 g.2.1.2.2.2 g.2.1.2.2.1) (LR g.2.1.2.1 (padR g.1.2) g.1.1) g.2.1.2.2.1) = true then 1 else 0)) g := fun w hC => by
  have h1 := v_faultR_ok hG.1 hC.1.1 hO
  obtain ⟨w1, w2, a1, a2, a3, a4, a5, a6⟩ := v_padRun hG hC hO
  rw [hv] at a6
  obtain ⟨hW, hE, hN, hV⟩ := hG.2.1
  have hVn : VR g.2.1.1 g.2.1.2.1 g.1.1 (padR g.1.2) := ⟨hO.1, fun i hi => padR_lt hO hi, hv⟩
  obtain ⟨w3, c1, c2, c3⟩ := v_lookR hW hVn a4.1.2.1.1 a5
  obtain ⟨w4, d1, d2, d3⟩ := v_writeLeast hW hVn (k := 11) c3
  have r4 : RP w4 0 g.2.1.1 g.2.1.2.1 := d2.RP rfl rfl (c2.RP rfl rfl a4.1.2.1.1)
  have k4 : RR w4 0 g.2.1.2.2.1 g.2.1.2.2.2 := RR_fr d2 rfl rfl (RR_fr c2 rfl rfl a4.1.2.1.2)
  obtain ⟨w5, e1, e2, e3⟩ := v_lookR hW hV r4 k4
  obtain ⟨w6, f1, f2, f3⟩ := v_writeLeast hW hV (k := 10) e3
  have l6 : RR w6 11 g.1.1 (LR g.2.1.2.1 (padR g.1.2) g.1.1) := RR_fr f2 rfl rfl (RR_fr e2 rfl rfl d3)
  have hs := v_sameR f3 l6 hV.1 hO.1 (fun i hi => LR_lt hV hi) (fun i hi => LR_lt hVn hi)
  have q11 : sub (SRg 11) SQ := sub_S2 (sub_S1 rfl) (sub_S1 rfl)
  have q10 : sub (SRg 10) SQ := sub_S2 (sub_S1 rfl) (sub_S1 rfl)
  have fall : Fr SQ w2 w6 := (c2.sub sub_SO).tr ((d2.sub q11).tr ((e2.sub sub_SO).tr (f2.sub q10)))
  have hCS : CS w6 := CS_fr f2 rfl rfl rfl rfl rfl rfl (CS_fr e2 rfl rfl rfl rfl rfl rfl (CS_fr d2 rfl rfl rfl rfl rfl rfl (CS_fr c2 rfl rfl rfl rfl rfl rfl a4.2)))
  refine ⟨w6, ?_, (a3.tr fall).sub sub_SQ, ⟨CJ_q fall a4.1, hCS⟩⟩
  rw [e_X7_alike, h1, joc, if_pos rfl, a1, joc, a2, joc, a6, joc, if_neg (show ¬ nI (if true = true then 1 else 0) = (0 : Int32) by decide), c1, joc, d1, joc, e1, joc, f1, joc, hs, joc]
  simp only [j01, jl]
  cases (decide (g.2.1.2.2.1 = g.1.1) && eqU (LR g.2.1.2.1 g.2.1.2.2.2 g.2.1.2.2.1) (LR g.2.1.2.1 (padR g.1.2) g.1.1) g.2.1.2.2.1) <;> rfl
theorem k_alike_no (hG : GI g) (hO : ¬ okR g.1.1 g.1.2) : OK (f_X7_alike 0) g (Int32.ofInt (-3)) g := OK_same fun w hC => by
  obtain ⟨v, h1, h2⟩ := v_faultR_no hG.1 hC.1.1 hO
  rw [e_X7_alike, h1, joc, if_neg h2]
/-! program -/
def prgG (g : Gst) (t : Nat) : Gst := ((0, g.1.2), (chG g (pgL t g.1.1 g.2.1.1) (pgP g.1.2 t g.1.1 g.2.1.2.1)).2)
theorem prg_WE (hG : GI g) {t : Nat} (hw : wl (pgP g.1.2 t g.1.1 g.2.1.2.1) t (pgL t g.1.1 g.2.1.1 t) = true) : WE (pgL t g.1.1 g.2.1.1) (pgP g.1.2 t g.1.1 g.2.1.2.1) := fun u hu => by
  by_cases e : u = t
  · rw [e]; exact hw
  · rw [show pgL t g.1.1 g.2.1.1 u = g.2.1.1 u from if_neg e, ← hG.2.1.2.1 u hu]
    exact wl_congr _ fun i hi => if_neg e
theorem prgG_GI (hG : GI g) (hO : okP g.1.1 g.1.2) {t : Nat} (ht : t < 4) (hw : wl (pgP g.1.2 t g.1.1 g.2.1.2.1) t (pgL t g.1.1 g.2.1.1 t) = true) : GI (prgG g t) :=
  ⟨⟨Nat.zero_le _, fun i hi => absurd hi (Nat.not_lt_zero _)⟩, (chG_GI hG (pgW hG.2.1.1 hO t) (prg_WE hG hw) (pgN hG.2.1.2.2.1 ht)).2⟩
theorem k_program (hG : GI g) (hO : okP g.1.1 g.1.2) {t : Nat} (ht : t < 4) (hw : wl (pgP g.1.2 t g.1.1 g.2.1.2.1) t (pgL t g.1.1 g.2.1.1 t) = true) : OK (f_X7_program 0 (nI t)) g (nI (g.1.1 / 2)) (prgG g t) := fun w hC => by
  obtain ⟨hW, hE, hN, hV⟩ := hG.2.1
  have c0 : f_X7_isThread (nI t) w = some (nI 1, w) := by rw [v_isThread (by omega), if_pos ht]
  have h1 := v_faultP_ok hG.1 hC.1.1 hO
  have hW' := pgW hW hO t
  have f1 := Fr_copyP 9 0 w
  have r1 := RP_copy (k0 := 9) hC.1.2.1.1 hW
  have e1 := v_copyFromP 9 0 w
  generalize wC (wC w 11 0 0 11 9 0 24) 12 0 0 12 9 0 4 = w1 at f1 r1 e1
  obtain ⟨w2, a1, a2, a3⟩ := v_readP hG.1 hO hW ht (PX_fr f1 rfl rfl hC.1.1) r1
  have f12 : Fr (SPg 9) w w2 := f1.tr a2
  have hC2 : CI w2 g := ⟨CJ_q (f12.sub sub_SPg9) hC.1, CS_fr f12 rfl rfl rfl rfl rfl rfl hC.2⟩
  have fq : Fr SCl w w2 := (f12.sub sub_SPg9).sub sub_SQ
  have cw := v_isWell a3 hW' ht
  rw [hw] at cw
  obtain ⟨w3, i1, i2, i3, i4⟩ := v_change hG hC2 hW' a3
  have f4 : Fr SPd w3 (wI w3 1 0 1 (nI 0)) := Fr.rf.wI (by decide)
  refine ⟨wI w3 1 0 1 (nI 0), ?_, (fq.tr i2).tr (f4.sub sub_SPd), ⟨CJ_pad f4 (p' := 0) (S' := g.1.2) ⟨by rw [jw1, if_pos ⟨rfl, rfl, rfl⟩], fun i hi => absurd hi (Nat.not_lt_zero _)⟩ i3.1, CS_fr f4 rfl rfl rfl rfl rfl rfl i3.2⟩⟩
  rw [e_X7_program, c0, joc, if_neg (show ¬ nI 1 = (0 : Int32) by decide), h1, joc, if_pos rfl, e1, joc, a1, joc, cw, joc]
  rw [if_neg (show ¬ nI (if true = true then 1 else 0) = (0 : Int32) by decide), i1, joc, e_X1_clear, joc]
  simp only [jl]
  rw [v_lengthOf (f4.RP rfl rfl i4) ht, joc]
  rw [show pgL t g.1.1 g.2.1.1 t = g.1.1 / 2 from if_pos rfl]
theorem k_program_no (hG : GI g) (hO : ¬ okP g.1.1 g.1.2) {t : Nat} (ht : t < 4) : OK (f_X7_program 0 (nI t)) g (Int32.ofInt (-3)) g := OK_same fun w hC => by
  obtain ⟨v, h1, h2⟩ := v_faultP_no hG.1 hC.1.1 hO
  rw [e_X7_program, v_isThread (by omega), joc, if_pos ht, if_neg (show ¬ nI 1 = (0 : Int32) by decide), h1, joc, if_neg h2]
theorem k_program_b {x : Int32} (hx : x < 0 ∨ ∃ q, q < 2147483648 ∧ x = nI q ∧ 4 ≤ q) : OK (f_X7_program 0 x) g (Int32.ofInt (-1)) g := OK_same fun w hC => by
  rw [e_X7_program, v_isThread_b hx, joc, if_pos (by rfl)]
/-! exchange, refused -/
theorem k_exch4 (y : Int32) : OK (f_X7_exchange 0 (nI 4) y) g (Int32.ofInt (-1)) g := OK_same fun w hC => by
  rw [e_X7_exchange, v_isThread (by decide), joc, if_neg (show ¬ 4 < 4 by decide), if_pos (by rfl)]
theorem k_exch_neg (hG : GI g) : OK (f_X7_exchange 0 (nI 0) (Int32.ofInt (-1))) g (Int32.ofInt (-1)) g := OK_same fun w hC => by
  rw [e_X7_exchange, v_isThread (by decide), joc, if_pos (show 0 < 4 by decide), if_neg (show ¬ nI 1 = (0 : Int32) by decide), if_pos (by decide)]
theorem k_exch5 (hG : GI g) : OK (f_X7_exchange 0 (nI 0) (nI 5)) g (Int32.ofInt (-1)) g := OK_same fun w hC => by
  have hL := (hG.2.1.1 0 (by decide)).1
  rw [e_X7_exchange, v_isThread (by decide), joc, if_pos (show 0 < 4 by decide), if_neg (show ¬ nI 1 = (0 : Int32) by decide), if_neg (by decide), v_lengthOf hC.1.2.1.1 (by decide), joc]
  rw [if_neg]
  intro h
  by_cases h0 : g.2.1.1 0 = 0
  · rw [h0] at h
    have h' : nI 5 < nI 0 - nI 1 := h
    exact absurd h' (by decide)
  · have h' : nI 5 < nI (g.2.1.1 0) - nI 1 := h
    rw [jsub (by omega), jlt (by decide) (by omega)] at h'
    omega
/-! undo -/
def undG (g : Gst) : Gst := (g.1, g.2.2.1.1 (g.2.2.1.2.1 - 1), (g.2.2.1.1, g.2.2.1.2.1 - 1, g.2.2.1.2.2), g.2.2.2)
theorem undG_GI (hG : GI g) (h0 : g.2.2.1.2.1 ≠ 0) : GI (undG g) := by
  obtain ⟨h1, hV, ⟨h3, h4, h5⟩, h6⟩ := hG
  exact ⟨h1, h5 _ (by omega), ⟨by show g.2.2.1.2.1 - 1 ≤ 6; omega, h4, fun i hi => h5 i (by have hi : i < g.2.2.1.2.1 - 1 := hi; omega)⟩, h6⟩
theorem k_undo0 (h0 : g.2.2.1.2.1 = 0) : OK (f_X7_undo 0) g (Int32.ofInt (-5)) g := OK_same fun w hC => by
  rw [e_X7_undo, e_X0_size, hC.1.2.2.1.2.1, h0, joc, if_pos (by rfl)]
theorem k_undo (hG : GI g) (h0 : g.2.2.1.2.1 ≠ 0) : OK (f_X7_undo 0) g (nI (g.2.2.1.2.1 - 1)) (undG g) := fun w hC => by
  obtain ⟨h1, hV, ⟨h3, h4, h5⟩, h6⟩ := hG
  let g1 : Gst := (g.1, g.2.1, (g.2.2.1.1, g.2.2.1.2.1 - 1, g.2.2.1.2.2), g.2.2.2)
  have f : Fr (S1 0 0) w (wI w 0 0 2 (nI (g.2.2.1.2.1 - 1))) := Fr.rf.wI (by decide)
  have hCg : CI (wI w 0 0 2 (nI (g.2.2.1.2.1 - 1))) g1 := by
    refine ⟨⟨⟨by rw [(f 1 0 rfl).1]; exact hC.1.1.1, fun i hi => by rw [(f 10 0 rfl).1]; exact hC.1.1.2 i hi⟩, XS_fr f rfl rfl rfl rfl hC.1.2.1, ⟨?_, ?_, fun i hi => XS_fr f rfl rfl rfl rfl (hC.1.2.2.1.2.2 i (by have hi : i < g.2.2.1.2.1 - 1 := hi; omega))⟩, fun j hj => ⟨by rw [(f 22 0 rfl).1]; exact (hC.1.2.2.2 j hj).1, fun hb => XS_fr f rfl rfl rfl rfl ((hC.1.2.2.2 j hj).2 hb)⟩⟩, CS_fr f rfl rfl rfl rfl rfl rfl hC.2⟩
    · rw [jw1, if_neg (by omega)]
      exact hC.1.2.2.1.1
    · rw [jw1, if_pos ⟨rfl, rfl, rfl⟩]
  have hX : XS (wI w 0 0 2 (nI (g.2.2.1.2.1 - 1))) (1 + (g.2.2.1.2.2 + (g.2.2.1.2.1 - 1)) % 6) (g.2.2.1.1 (g.2.2.1.2.1 - 1)) := XS_fr f rfl rfl rfl rfl (hC.1.2.2.1.2.2 _ (by omega))
  have hm : (g.2.2.1.2.2 + (g.2.2.1.2.1 - 1)) % 6 < 6 := Nat.mod_lt _ (by decide)
  obtain ⟨w1, a1, a2, a3, a4⟩ := v_take (g := g1) (k := 1 + (g.2.2.1.2.2 + (g.2.2.1.2.1 - 1)) % 6) (by omega) (by omega) hCg (h5 _ (by omega)) hX
  refine ⟨w1, ?_, ((Fr.rf.wI (by decide) : Fr SCl w (wI w 0 0 2 (nI (g.2.2.1.2.1 - 1))))).tr a2, a3⟩
  have hd : (nI g.2.2.1.2.2 + nI (g.2.2.1.2.1 - 1)) - (nI g.2.2.1.2.2 + nI (g.2.2.1.2.1 - 1)) / nI 6 * nI 6 = nI ((g.2.2.1.2.2 + (g.2.2.1.2.1 - 1)) % 6) := by
    rw [nI_add, jrem (by omega) (by decide) (by decide)]
  have e1 : (wI w 0 0 2 (nI (g.2.2.1.2.1 - 1))).1 0 0 1 = nI g.2.2.1.2.2 := hCg.1.2.2.1.1
  have e2 : (wI w 0 0 2 (nI (g.2.2.1.2.1 - 1))).1 0 0 2 = nI (g.2.2.1.2.1 - 1) := hCg.1.2.2.1.2.1
  have et : f_X0_takeBackInto 0 0 w = some w1 := by
    rw [e_X0_takeBackInto, hC.1.2.2.1.2.1]
    simp (disch := omega) only [jl, jle0, h0, ↓reduceIte, jeq0, Nat.reduceEqDiff, jsub]
    rw [e1, e2, hd, jchk hm (by decide), jcl (by omega), a1, joc]
  rw [e_X7_undo, e_X0_size, hC.1.2.2.1.2.1, joc, if_neg (by rw [jeq0 (by omega)]; exact h0), et, joc, e_X0_size, joc]
  have : w1.1 0 0 2 = nI (g.2.2.1.2.1 - 1) := by rw [a4]; exact e2
  rw [this]
/-! save, restore -/
theorem savG_GI (hG : GI g) (q : Nat) : GI (savG g q) := ⟨hG.1, hG.2.1, hG.2.2.1, fun j hj hb => by
  show SV (if j = q then g.2.1 else g.2.2.2.1 j)
  by_cases e : j = q
  · rw [if_pos e]; exact hG.2.1
  · rw [if_neg e]
    have hb : (if j = q then true else g.2.2.2.2 j) = true := hb
    rw [if_neg e] at hb
    exact hG.2.2.2 j hj hb⟩
theorem k_save (hG : GI g) {q : Nat} (hq : q < 2) : OK (f_X7_save 0 (nI q)) g (nI (g.2.1.1 0 + g.2.1.1 1 + g.2.1.1 2 + g.2.1.1 3)) (savG g q) := fun w hC => by
  have hV := hG.2.1
  obtain ⟨w1, a1, a2, a3⟩ := v_copyX (k0 := 7 + q) (k1 := 0) (by omega) hV hC.1.2.1
  have fx := sub_SX0 (k := 7 + q) (by omega)
  have f2 : Fr (S1 22 0) w1 (wI w1 22 0 q (nI 1)) := Fr.rf.wI (by decide)
  have ff : Fr SCl w (wI w1 22 0 q (nI 1)) := (a2.sub fx).tr (f2.sub (sub_S1 rfl))
  have hw0 : XS (wI w1 22 0 q (nI 1)) 0 g.2.1 := by
    obtain ⟨c1, c2, c3, c4⟩ := SXg_k (k := 7 + q) (j := 0) (by omega)
    exact XS_fr f2 rfl rfl rfl rfl (XS_fr a2 c1 c2 c3 c4 hC.1.2.1)
  refine ⟨wI w1 22 0 q (nI 1), ?_, ff, ⟨⟨⟨by rw [(f2 1 0 rfl).1, (a2 1 0 rfl).1]; exact hC.1.1.1, fun i hi => by rw [(f2 10 0 rfl).1, (a2 10 0 rfl).1]; exact hC.1.1.2 i hi⟩, hw0, ⟨by rw [(f2 0 0 rfl).1, (a2 0 0 rfl).1]; exact hC.1.2.2.1.1, by rw [(f2 0 0 rfl).1, (a2 0 0 rfl).1]; exact hC.1.2.2.1.2.1, fun i hi => ?_⟩, fun j hj => ⟨?_, fun hb => ?_⟩⟩, CS_fr f2 rfl rfl rfl rfl rfl rfl (CS_x (by omega) a2 hC.2)⟩⟩
  · rw [e_X7_save, v_isSlot (by omega), joc, if_pos hq, if_neg (show ¬ nI 1 = (0 : Int32) by decide)]
    simp (disch := omega) only [jchk, jcl, a1, joc, jl, jzb1]
    rw [v_allSteps hw0.1, joc]
  · have : (g.2.2.1.2.2 + i) % 6 < 6 := Nat.mod_lt _ (by decide)
    obtain ⟨c1, c2, c3, c4⟩ := SXg_k (k := 7 + q) (j := 1 + (g.2.2.1.2.2 + i) % 6) (by omega)
    exact XS_fr f2 rfl rfl rfl rfl (XS_fr a2 c1 c2 c3 c4 (hC.1.2.2.1.2.2 i hi))
  · show _ = nI (if (if j = q then true else g.2.2.2.2 j) = true then 1 else 0)
    rw [jw1]
    by_cases e : j = q
    · rw [if_pos ⟨rfl, rfl, e⟩, if_pos e, if_pos rfl]
    · rw [if_neg (fun z => e z.2.2), if_neg e, (a2 22 0 rfl).1]
      exact (hC.1.2.2.2 j hj).1
  · show XS _ (7 + j) (if j = q then g.2.1 else g.2.2.2.1 j)
    have hb : (if j = q then true else g.2.2.2.2 j) = true := hb
    by_cases e : j = q
    · rw [if_pos e, e]
      exact XS_fr f2 rfl rfl rfl rfl a3
    · rw [if_neg e] at hb ⊢
      obtain ⟨c1, c2, c3, c4⟩ := SXg_k (k := 7 + q) (j := 7 + j) (by omega)
      exact XS_fr f2 rfl rfl rfl rfl (XS_fr a2 c1 c2 c3 c4 ((hC.1.2.2.2 j hj).2 hb))
theorem k_save2 : OK (f_X7_save 0 (nI 2)) g (Int32.ofInt (-2)) g := OK_same fun w hC => by
  rw [e_X7_save, v_isSlot (by decide), joc, if_neg (show ¬ 2 < 2 by decide), if_pos (by rfl)]
def rstG (g : Gst) (q : Nat) : Gst := ((recG g).1, g.2.2.2.1 q, (recG g).2.2)
theorem rstG_GI (hG : GI g) {q : Nat} (hq : q < 2) (hb : g.2.2.2.2 q = true) : GI (rstG g q) := ⟨(recG_GI hG).1, hG.2.2.2 q hq hb, (recG_GI hG).2.2.1, (recG_GI hG).2.2.2⟩
theorem k_restore (hG : GI g) {q : Nat} (hq : q < 2) (hb : g.2.2.2.2 q = true) : OK (f_X7_restore 0 (nI q)) g (nI ((g.2.2.2.1 q).1 0 + (g.2.2.2.1 q).1 1 + (g.2.2.2.1 q).1 2 + (g.2.2.2.1 q).1 3)) (rstG g q) := fun w hC => by
  have hfl := (hC.1.2.2.2 q hq).1
  rw [hb] at hfl
  have hVs := hG.2.2.2 q hq hb
  obtain ⟨w1, a1, a2, a3⟩ := v_record hG hC.1
  obtain ⟨w2, b1, b2, b3, -⟩ := v_take (g := recG g) (k := 7 + q) (by omega) (by omega) ⟨a3, CS_h a2 hC.2⟩ hVs ((a3.2.2.2 q hq).2 hb)
  refine ⟨w2, ?_, (a2.sub sub_SHs).tr b2, b3⟩
  rw [e_X7_restore, v_isSlot (by omega), joc, if_pos hq, if_neg (show ¬ nI 1 = (0 : Int32) by decide)]
  simp (disch := omega) only [jchk, jcl, hfl, j01, Bool.true_eq_false, ↓reduceIte]
  rw [a1, joc, b1, joc, v_allSteps b3.1.2.1.1, joc, if_neg (show ¬ nI 1 = (0 : Int32) by decide)]
theorem k_restore_no {q : Nat} (hq : q < 2) (hb : g.2.2.2.2 q = false) : OK (f_X7_restore 0 (nI q)) g (Int32.ofInt (-5)) g := OK_same fun w hC => by
  have hfl := (hC.1.2.2.2 q hq).1
  rw [hb] at hfl
  rw [e_X7_restore, v_isSlot (by omega), joc, if_pos hq, if_neg (show ¬ nI 1 = (0 : Int32) by decide)]
  simp (disch := omega) only [jchk, jcl, hfl, j01, ↓reduceIte]
theorem k_restore_neg : OK (f_X7_restore 0 (Int32.ofInt (-1))) g (Int32.ofInt (-2)) g := OK_same fun w hC => by
  rw [e_X7_restore, v_isSlot_neg (by decide), joc, if_pos (by rfl)]
end KC
