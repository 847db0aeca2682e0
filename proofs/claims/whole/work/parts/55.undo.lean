/-! undo, save, restore alike. -/
section UD
theorem sub_SHs : sub SHs SCl := fun t i h => by
  unfold SCl at h
  rw [Bool.or_eq_false_iff] at h
  have h1 : ¬ t < 8 := fun hl => by rw [Nat.blt_eq.mpr hl] at h; cases h.1
  have h2 : ¬ (9 < t ∧ t < 23) := fun hl => by rw [Nat.blt_eq.mpr hl.1, Nat.blt_eq.mpr hl.2] at h; cases h.2
  have e : ∀ a, a < 23 → (a < 8 ∨ 9 < a) → Nat.beq t a = false := fun a ha hb => by
    cases hh : Nat.beq t a with
    | false => rfl
    | true =>
      have := Nat.eq_of_beq_eq_true hh
      omega
  unfold SHs
  rw [e 0 (by decide) (by decide), e 11 (by decide) (by decide), e 12 (by decide) (by decide), e 3 (by decide) (by decide), e 13 (by decide) (by decide)]
  rfl
theorem sub_SX0 {k : Nat} (h : k < 9) : sub (SXg k) SCl := sub_S2 (sub_S2 (sub_S1 rfl) (sub_S1 rfl)) (sub_S2 (sub_S1 rfl) (sub_S1 rfl))
theorem CS_h {w w' : Wd} (hf : Fr SHs w w') (h : CS w) : CS w' := CS_fr hf rfl rfl rfl rfl rfl rfl h
theorem CS_x {k : Nat} (hk : k < 9) {w w' : Wd} (hf : Fr (SXg k) w w') (h : CS w) : CS w' := by
  obtain ⟨a, b, -, -⟩ := SXg_k (k := k) (j := 10) (by omega)
  exact CS_fr hf rfl a b rfl rfl rfl h
/-- the class takes a kept state as its own -/
theorem v_take {g : Gst} {w : Wd} {k : Nat} (hk : 0 < k) (hk9 : k < 9) (hC : CI w g) {s : Stt} (hV : SV s) (hX : XS w k s) : ∃ w', f_X6_copyFrom 0 k w = some w' ∧ Fr SCl w w' ∧ CI w' (g.1, s, g.2.2) ∧ w'.1 0 0 = w.1 0 0 := by
  obtain ⟨w1, a1, a2, a3⟩ := v_copyX (k0 := 0) (k1 := k) (by omega) hV hX
  refine ⟨w1, a1, a2.sub (sub_SX0 (by decide)), ⟨⟨by exact ⟨by rw [(a2 1 0 rfl).1]; exact hC.1.1.1, fun i hi => by rw [(a2 10 0 rfl).1]; exact hC.1.1.2 i hi⟩, a3, ⟨by rw [(a2 0 0 rfl).1]; exact hC.1.2.2.1.1, by rw [(a2 0 0 rfl).1]; exact hC.1.2.2.1.2.1, fun i hi => ?_⟩, fun j hj => ⟨by rw [(a2 22 0 rfl).1]; exact (hC.1.2.2.2 j hj).1, fun hb => ?_⟩⟩, CS_x (by decide) a2 hC.2⟩, (a2 0 0 rfl).1⟩
  · obtain ⟨b1, b2, b3, b4⟩ := SXg_k (k := 0) (j := 1 + (g.2.2.1.2.2 + i) % 6) (by omega)
    exact XS_fr a2 b1 b2 b3 b4 (hC.1.2.2.1.2.2 i hi)
  · obtain ⟨b1, b2, b3, b4⟩ := SXg_k (k := 0) (j := 7 + j) (by omega)
    exact XS_fr a2 b1 b2 b3 b4 ((hC.1.2.2.2 j hj).2 hb)
/-- the reference takes a kept state as its own -/
theorem u_take {g : Gst} {w : Wd} {k a : Nat} (hk : k ≠ 0) (ha : a + 53 ≤ sz k) (hM : MI w g) {s : Stt} (hV : SV s) (hX : MS w k a s) : ∃ w', f_X8_copies k (nI a) 0 (nI 0) w = some w' ∧ Fr (S1 30 0) w w' ∧ MI w' (g.1, s, g.2.2) := by
  obtain ⟨w1, a1, a2, a3, -⟩ := u_copies (k0 := k) (k2 := 0) (a := a) (b := 0) hk ha (by decide) w
  refine ⟨w1, a1, a2, ⟨by rw [(a2 8 0 rfl).1]; exact hM.1.1, fun i hi => by rw [(a2 31 0 rfl).1]; exact hM.1.2 i hi⟩, MS_mv hV a3 hX, ⟨by rw [(a2 8 0 rfl).1]; exact hM.2.2.1.1, fun i hi => MS_fr a2 rfl (hM.2.2.1.2 i hi)⟩, by rw [(a2 8 0 rfl).1]; exact hM.2.2.2.1, fun j hj hb => MS_fr a2 rfl (hM.2.2.2.2 j hj hb)⟩
theorem a2_undo : A2 (f_X7_undo 0) (f_X8_undo 0) := fun g w wm hG hC hM => by
  obtain ⟨h1, hV, ⟨h3, h4, h5⟩, h6⟩ := hG
  by_cases hz : g.2.2.1.2.1 = 0
  · refine ⟨Int32.ofInt (-5), w, g, wm, ?_, Fr.rf, ⟨h1, hV, ⟨h3, h4, h5⟩, h6⟩, hC, ?_, Fr.rf, hM⟩
    · rw [e_X7_undo, e_X0_size, hC.1.2.2.1.2.1, hz, joc, if_pos (by rfl)]
    · rw [e_X8_undo, hM.2.2.1.1, hz, if_pos (by rfl)]
  · let z := g.2.2.1.2.1 - 1
    have hz' : g.2.2.1.2.1 = z + 1 := by show _ = g.2.2.1.2.1 - 1 + 1; omega
    let g1 : Gst := (g.1, g.2.1, (g.2.2.1.1, z, g.2.2.1.2.2), g.2.2.2)
    have hsz : z < g.2.2.1.2.1 := by omega
    have hCg : CI (wI w 0 0 2 (nI z)) g1 := by
      have f : Fr (S1 0 0) w (wI w 0 0 2 (nI z)) := Fr.rf.wI (by decide)
      refine ⟨⟨⟨by rw [(f 1 0 rfl).1]; exact hC.1.1.1, fun i hi => by rw [(f 10 0 rfl).1]; exact hC.1.1.2 i hi⟩, XS_fr f rfl rfl rfl rfl hC.1.2.1, ⟨?_, ?_, fun i hi => XS_fr f rfl rfl rfl rfl (hC.1.2.2.1.2.2 i (by have hi : i < z := hi; omega))⟩, fun j hj => ⟨by rw [(f 22 0 rfl).1]; exact (hC.1.2.2.2 j hj).1, fun hb => XS_fr f rfl rfl rfl rfl ((hC.1.2.2.2 j hj).2 hb)⟩⟩, CS_fr f rfl rfl rfl rfl rfl rfl hC.2⟩
      · rw [jw1, if_neg (by omega)]
        exact hC.1.2.2.1.1
      · rw [jw1, if_pos ⟨rfl, rfl, rfl⟩]
    have hX : XS (wI w 0 0 2 (nI z)) (1 + (g.2.2.1.2.2 + z) % 6) (g.2.2.1.1 z) := by
      have f : Fr (S1 0 0) w (wI w 0 0 2 (nI z)) := Fr.rf.wI (by decide)
      exact XS_fr f rfl rfl rfl rfl (hC.1.2.2.1.2.2 z hsz)
    have hm : (g.2.2.1.2.2 + z) % 6 < 6 := Nat.mod_lt _ (by decide)
    obtain ⟨w1, a1, a2, a3, a4⟩ := v_take (g := g1) (k := 1 + (g.2.2.1.2.2 + z) % 6) (by omega) (by omega) hCg (h5 z hsz) hX
    have hMg : MI (wI wm 8 0 2 (nI z)) g1 := by
      have f : Fr (S1 8 0) wm (wI wm 8 0 2 (nI z)) := Fr.rf.wI (by decide)
      refine ⟨⟨by rw [jw1, if_neg (by omega)]; exact hM.1.1, fun i hi => by rw [(f 31 0 rfl).1]; exact hM.1.2 i hi⟩, MS_fr f rfl hM.2.1, ⟨by rw [jw1, if_pos ⟨rfl, rfl, rfl⟩], fun i hi => MS_fr f rfl (hM.2.2.1.2 i (by have hi : i < z := hi; omega))⟩, by rw [jw1, if_neg (by omega)]; exact hM.2.2.2.1, fun j hj hb => MS_fr f rfl (hM.2.2.2.2 j hj hb)⟩
    have hMX : MS (wI wm 8 0 2 (nI z)) 1 (z * 53) (g.2.2.1.1 z) := by
      have f : Fr (S1 8 0) wm (wI wm 8 0 2 (nI z)) := Fr.rf.wI (by decide)
      rw [Nat.mul_comm]
      exact MS_fr f rfl (hM.2.2.1.2 z hsz)
    obtain ⟨m1, b1, b2, b3⟩ := u_take (g := g1) (k := 1) (a := z * 53) (by decide) (by show z * 53 + 53 ≤ 318; omega) hMg (h5 z hsz) hMX
    refine ⟨nI z, w1, (g.1, g.2.2.1.1 z, (g.2.2.1.1, z, g.2.2.1.2.2), g.2.2.2), m1, ?_, ?_, ⟨h1, h5 z hsz, ⟨by show z ≤ 6; omega, h4, fun i hi => h5 i (by have hi : i < z := hi; omega)⟩, h6⟩, a3, ?_, ?_, b3⟩
    · have hd : (nI g.2.2.1.2.2 + nI z) - (nI g.2.2.1.2.2 + nI z) / nI 6 * nI 6 = nI ((g.2.2.1.2.2 + z) % 6) := by
        rw [nI_add, jrem (by omega) (by decide) (by decide)]
      have e1 : (wI w 0 0 2 (nI z)).1 0 0 1 = nI g.2.2.1.2.2 := hCg.1.2.2.1.1
      have e2 : (wI w 0 0 2 (nI z)).1 0 0 2 = nI z := hCg.1.2.2.1.2.1
      have et : f_X0_takeBackInto 0 0 w = some w1 := by
        rw [e_X0_takeBackInto, hC.1.2.2.1.2.1]
        simp (disch := omega) only [jl, jle0, hz, ↓reduceIte, jeq0, Nat.reduceEqDiff, jsub]
        have e1' : (wI w 0 0 2 (nI (g.2.2.1.2.1 - 1))).1 0 0 1 = nI g.2.2.1.2.2 := e1
        have e2' : (wI w 0 0 2 (nI (g.2.2.1.2.1 - 1))).1 0 0 2 = nI (g.2.2.1.2.1 - 1) := e2
        have hd' : (nI g.2.2.1.2.2 + nI (g.2.2.1.2.1 - 1)) - (nI g.2.2.1.2.2 + nI (g.2.2.1.2.1 - 1)) / nI 6 * nI 6 = nI ((g.2.2.1.2.2 + (g.2.2.1.2.1 - 1)) % 6) := hd
        have a1' : f_X6_copyFrom 0 (1 + (g.2.2.1.2.2 + (g.2.2.1.2.1 - 1)) % 6) (wI w 0 0 2 (nI (g.2.2.1.2.1 - 1))) = some w1 := a1
        have hm' : (g.2.2.1.2.2 + (g.2.2.1.2.1 - 1)) % 6 < 6 := hm
        rw [e1', e2', hd', jchk hm' (by decide), jcl (by omega), a1', joc]
      rw [e_X7_undo, e_X0_size, hC.1.2.2.1.2.1, joc, if_neg (by rw [jeq0 (by omega)]; exact hz), et, joc, e_X0_size, joc]
      have : w1.1 0 0 2 = nI z := by rw [a4]; exact e2
      rw [this]
    · exact ((Fr.rf.wI (by decide) : Fr SCl w (wI w 0 0 2 (nI z)))).tr a2
    · rw [e_X8_undo, hM.2.2.1.1, if_neg (by rw [jeq0 (by omega)]; exact hz)]
      have e2 : (wI wm 8 0 2 (nI z)).1 8 0 2 = nI z := hMg.2.2.1.1
      simp (disch := omega) only [jl, jsub]
      show (oC (f_X8_copies 1 ((wI wm 8 0 2 (nI z)).1 8 0 2 * nI 53) 0 (nI 0) (wI wm 8 0 2 (nI z))) fun q1 => some (q1.1 8 0 2, q1)) = _
      rw [e2, jmul, b1, joc, (b2 8 0 rfl).1, e2]
    · exact ((Fr.rf.wI (by decide) : Fr SMd wm (wI wm 8 0 2 (nI z)))).tr (b2.sub (sub_S1 rfl))
end UD
