/-! keep alike: a run from the pad. -/
section KP
variable {p : Nat} {S : Nat → Nat} {L : Nat → Nat} {P : Nat → Nat → Nat}
def padR (S : Nat → Nat) (i : Nat) : Nat := S i - 48
theorem padR_lt (hO : okR p S) {i : Nat} (hi : i < p) : padR S i < 4 := by
  have := hO.2 i hi
  unfold dg at this
  rw [Bool.and_eq_true] at this
  have h1 := of_decide_eq_true this.1
  have h2 := of_decide_eq_true this.2
  unfold padR
  omega
theorem PX_fr {T : Nat → Nat → Bool} {w w' : Wd} (hf : Fr T w w') (h1 : T 1 0 = false) (h2 : T 10 0 = false) (h : PX w p S) : PX w' p S := ⟨by rw [(hf 1 0 h1).1]; exact h.1, fun i hi => by rw [(hf 10 0 h2).1]; exact h.2 i hi⟩
theorem v_readRun (hS : SK p S) (hO : okR p S) {w : Wd} (hX : PX w p S) : ∃ w', f_X3_readRun 9 0 w = some w' ∧ Fr (SRg 9) w w' ∧ RR w' 9 p (padR S) := by
  have lp : ∀ (m i : Nat) (w : Wd), m + i = p → PX w p S → RR w 9 i (padR S) → ∃ w', x_X3_readRun 6 [] [some (zr 3 9), some (zr 1 0), some (zi (nI i))] w = some w' ∧ Fr (SRg 9) w w' ∧ RR w' 9 p (padR S) := by
    have h24 := hO.1
    intro m
    induction m with
    | zero =>
      intro i w hm hX hR
      refine ⟨w, ?_, Fr.rf, by rw [show p = i by omega]; exact hR⟩
      rw [e_X3_readRun_6, e_X1_length, hX.1, joc]
      simp (disch := omega) only [jle]
      rw [if_pos (by omega)]
    | succ m ih =>
      intro i w hm hX hR
      have hi : i < p := by omega
      obtain ⟨w1, a1, a2, a3⟩ := v_append (x := S i - 48) hR (by omega) rfl
      obtain ⟨w', h1, h2, h3⟩ := ih (i + 1) w1 (by omega) (PX_fr a2 rfl rfl hX) a3
      refine ⟨w', ?_, a2.tr h2, h3⟩
      rw [← h1, e_X3_readRun_6, e_X1_length, hX.1, joc]
      simp (disch := omega) only [jle, v_digitAt hS hX hi (hO.2 i hi), joc, a1, jl, nI_add]
      rw [if_neg (by omega)]
  have f1 : Fr (SRg 9) w (wI w 3 9 1 (nI 0)) := Fr.rf.wI (SRg_3 9)
  obtain ⟨w', h1, h2, h3⟩ := lp p 0 (wI w 3 9 1 (nI 0)) rfl (PX_fr f1 rfl rfl hX) ⟨by rw [jw1, if_pos ⟨rfl, rfl, rfl⟩], fun i hi => by omega⟩
  refine ⟨w', ?_, f1.tr h2, h3⟩
  rw [← h1, e_X3_readRun, e_X3_clear, joc]
  simp only [jl]
theorem sub_SR9 : sub (SRg 9) SQ := sub_S2 (sub_S1 rfl) (sub_S1 rfl)
/-- the class reads the pad's run, and looks at its stands -/
theorem v_padRun {g : Gst} {w : Wd} (hG : GI g) (hC : CI w g) (hO : okR g.1.1 g.1.2) : ∃ w1 w2, f_X3_readRun 9 0 w = some w1 ∧ f_X5_lookAt 0 0 w1 = some w2 ∧ Fr SQ w w2 ∧ CI w2 g ∧ RR w2 9 g.1.1 (padR g.1.2) ∧ f_X5_canRun 0 9 w2 = some (nI (if vb g.2.1.1 g.2.1.2.1 (padR g.1.2) g.1.1 = true then 1 else 0), w2) := by
  obtain ⟨w1, a1, a2, a3⟩ := v_readRun hG.1 hO hC.1.1
  have hC1 : CI w1 g := ⟨CJ_q (a2.sub sub_SR9) hC.1, CS_fr a2 rfl rfl rfl rfl rfl rfl hC.2⟩
  have hl := look hG hC1
  obtain ⟨hW, hE, hN, hV⟩ := hG.2.1
  have hx : ∀ w2, f_X5_lookAt 0 0 w1 = some w2 → Fr SSp w1 w2 := fun w2 h => by
    rcases hC1.2 with h0 | ⟨L, P, a, b, c, d⟩
    · obtain ⟨w', h1, h2, -⟩ := v_lookAt hW hE hN (k := 0) (by decide) hC1.1.2.1.1 (L' := g.2.1.1) (P' := g.2.1.2.1) (Or.inl h0)
      rw [h1] at h
      cases h
      exact h2
    · obtain ⟨w', h1, h2, -⟩ := v_lookAt hW hE hN (k := 0) (by decide) hC1.1.2.1.1 (L' := L) (P' := P) (Or.inr ⟨c, a, b⟩)
      rw [h1] at h
      cases h
      exact h2
  obtain ⟨w2, b1, b2, b3, b4, -⟩ := hl
  have fs := hx w2 b1
  have hR2 : RR w2 9 g.1.1 (padR g.1.2) := ⟨by rw [(fs 3 9 rfl).1]; exact a3.1, fun i hi => by rw [(fs 13 9 rfl).1]; exact a3.2 i hi⟩
  exact ⟨w1, w2, a1, b1, (a2.sub sub_SR9).tr b2, b3, hR2, v_canRun hW b4 hO.1 hR2 (fun i hi => padR_lt hO hi)⟩
end KP
