/-! THE LAW looks at the kept run, to the end. -/
section RV
variable {g : Gst} {a : Nat → Nat}
def RnP (g : Gst) (a : Nat → Nat) (w' : Wd) : Prop := ∃ g', St w' g' a ∧ GI g' ∧ g'.2.1 = g.2.1
theorem run_318 (hG : GI g) (hA : PA g a) (hK : KA g a) {S : Nat → Nat} (hd : dgP (LR g.2.1.2.1 g.2.1.2.2.2 g.2.1.2.2.1) g.2.1.2.2.1 S) {x4 : Nat} (hx4 : x4 < 100) : ∀ (m v x3 : Nat) (w : Wd), m + v = 4 → x3 ≤ v → St w ((g.2.1.2.2.1, S), g.2) a →
    Wn (x_L_run 318 [] [some (zr 7 0), some (zr 30 0), some (zi (nI g.2.1.2.2.1)), some (zi (nI x3)), some (zi (nI x4)), none, none, none, some (zl (lN (wy g.2.1.2.1 g.2.1.2.2.2 g.2.1.2.2.1))), none, some (zi (nI (mxA (ch g.2.1.2.1 g.2.1.2.2.2) g.2.1.2.2.1))), some (zi (nI v)), none, none, none, none, none, none] w) (RnP g a) := by
  obtain ⟨hW, hE, hN, hV⟩ := hG.2.1
  have hn24 := hV.1
  have hG1 : GI ((g.2.1.2.2.1, S), g.2) := ⟨dgP_SK hd (show g.2.1.2.2.1 ≤ 40 by omega), hG.2⟩
  have hA1 : PA ((g.2.1.2.2.1, S), g.2) a := hA
  have hK1 : KA ((g.2.1.2.2.1, S), g.2) a := hK
  have hO : okR g.2.1.2.2.1 S := dgP_ok hd hn24
  have hv : vb g.2.1.1 g.2.1.2.1 (padR S) g.2.1.2.2.1 = true := by
    rw [vb_cg _ fun j hj => dgP_R hd hj]
    exact (LR_VR hV).2.2
  have hpad : LE g.2.1.2.1 g.2.1.2.2.2 g.2.1.2.2.1 (padR S) := LE_cg (LR_LE (P := g.2.1.2.1) hV.2.1) fun j hj => dgP_R hd hj
  have hG2 := kepG_GI (g := ((g.2.1.2.2.1, S), g.2)) hG1 hO hv
  have hlt := wy_lt hW hV
  intro m
  induction m with
  | zero =>
    intro v x3 w hm hx3 hS
    have : v = 4 := by omega
    subst this
    rw [e_L_run_318]
    refine Wn.pos (by decide) ?_
    refine Wn.call (k_keep hG1 hO hv) hS fun w1 s1 => ?_
    refine Wn.pos rfl ?_
    refine Wn.call (k_alikeRuns hG2) s1 fun w2 s2 => ?_
    refine Wn.pos ?_ ?_
    · show lg_cmp (lN (wy g.2.1.2.1 (padR S) g.2.1.2.2.1)) (lN _) = 0
      rw [wy_LE hW hV hpad, lcmpEQ hlt hlt]
    refine Wn.call (k_chain hG2) s2 fun w3 s3 => ?_
    refine Wn.pos ?_ ?_
    · show nI (mxA (ch g.2.1.2.1 (padR S)) g.2.1.2.2.1) = _
      rw [Pm_max (LE_Pm hV.2.1 hpad)]
    exact run_501 (g2 := kepG ((g.2.1.2.2.1, S), g.2)) (g0 := ((g.2.1.2.2.1, S), g.2)) hG2 hG1 rfl rfl rfl rfl hpad (x3 := x3) (by omega) g.2.1.2.2.1 0 w3 S x4 (Nat.add_zero _) hx4 (fun j hj => by omega) s3
  | succ m ih =>
    intro v x3 w hm hx3 hS
    have hv4 : v < 4 := by omega
    obtain ⟨b, h1, h2⟩ := run_335 hG1 hA1 hK1 hS (x3 := nI x3) (x4 := nI x4) (x10 := nI (mxA (ch g.2.1.2.1 g.2.1.2.2.2) g.2.1.2.2.1)) (y8 := lN (wy g.2.1.2.1 g.2.1.2.2.2 g.2.1.2.2.1)) hv4 g.2.1.2.2.1 0 (Nat.add_zero _)
    rw [e_L_run_318]
    refine Wn.neg (by rw [jl, jle (by decide) (by omega)]; omega) ?_
    refine Wn.rw h2 ?_
    rw [e_L_run_435]
    refine Wn.call (k_lastW hG1 hv4 (q := 0) (by decide)) hS fun w1 s1 => ?_
    refine Wn.pos rfl ?_
    refine Wn.call (k_lastW hG1 hv4 (q := 1) (by decide)) s1 fun w2 s2 => ?_
    refine Wn.pos rfl ?_
    have e1 : nI v + Int32.ofInt 1 = nI (v + 1) := nI_add v 1
    rw [e1, nI_add]
    exact ih (v + 1) (x3 + b) w2 (by omega) (by omega) s2
theorem run_276 (hG : GI g) (hA : PA g a) (hK : KA g a) {S : Nat → Nat} (hd : dgP (LR g.2.1.2.1 g.2.1.2.2.2 g.2.1.2.2.1) g.2.1.2.2.1 S) {x4 M : Nat} (hx4 : x4 < 100) (hM : M ≤ mxA (ch g.2.1.2.1 g.2.1.2.2.2) g.2.1.2.2.1) {w : Wd} (hS : St w ((g.2.1.2.2.1, S), g.2) a) :
    Wn (x_L_run 276 [] [some (zr 7 0), some (zr 30 0), some (zi (nI g.2.1.2.2.1)), some (zi (nI 0)), some (zi (nI x4)), none, none, some (zi (nI M)), some (zl (lN (wy g.2.1.2.1 g.2.1.2.2.2 g.2.1.2.2.1))), none, some (zi (nI (mxA (ch g.2.1.2.1 g.2.1.2.2.2) g.2.1.2.2.1))), none, none, none, none, none, none, none] w) (RnP g a) := by
  obtain ⟨hW, hE, hN, hV⟩ := hG.2.1
  have hn24 := hV.1
  have hC := chain_le (P := g.2.1.2.1) (R := g.2.1.2.2.2) (n := g.2.1.2.2.1)
  have hlt := wy_lt hW hV
  have fin := run_318 hG hA hK hd hx4 4 0 0 w rfl (Nat.le_refl _) hS
  have one : (lg_cmp (lN (wy g.2.1.2.1 g.2.1.2.2.2 g.2.1.2.2.1)) (Int64.ofInt 1) = 0) = (wy g.2.1.2.1 g.2.1.2.2.2 g.2.1.2.2.1 = 1) := by
    rw [jlL, lcmpEQ hlt (by decide)]
  rw [e_L_run_276]
  refine Wn.neg (by rw [jlt (by omega) (by omega)]; omega) ?_
  refine Wn.neg (by rw [jlt (by omega) (by omega)]; omega) ?_
  have fin2 : Wn (if nI g.2.1.2.2.1 = 0 then (if lg_cmp (lN (wy g.2.1.2.1 g.2.1.2.2.2 g.2.1.2.2.1)) (Int64.ofInt 1) = 0 then x_L_run 318 [] [some (zr 7 0), some (zr 30 0), some (zi (nI g.2.1.2.2.1)), some (zi (nI 0)), some (zi (nI x4)), none, none, none, some (zl (lN (wy g.2.1.2.1 g.2.1.2.2.2 g.2.1.2.2.1))), none, some (zi (nI (mxA (ch g.2.1.2.1 g.2.1.2.2.2) g.2.1.2.2.1))), some (zi (nI 0)), none, none, none, none, none, none] w else zb (Int32.ofInt 0) (some (Int32.ofInt 0, w))) else x_L_run 318 [] [some (zr 7 0), some (zr 30 0), some (zi (nI g.2.1.2.2.1)), some (zi (nI 0)), some (zi (nI x4)), none, none, none, some (zl (lN (wy g.2.1.2.1 g.2.1.2.2.2 g.2.1.2.2.1))), none, some (zi (nI (mxA (ch g.2.1.2.1 g.2.1.2.2.2) g.2.1.2.2.1))), some (zi (nI 0)), none, none, none, none, none, none] w) (RnP g a) := by
    by_cases h0 : g.2.1.2.2.1 = 0
    · refine Wn.pos (by rw [jeq0 (by omega)]; exact h0) (Wn.pos ?_ fin)
      rw [one, h0]
      exact wy_0
    · exact Wn.neg (by rw [jeq0 (by omega)]; exact h0) fin
  by_cases hc : mxA (ch g.2.1.2.1 g.2.1.2.2.2) g.2.1.2.2.1 = g.2.1.2.2.1
  · refine Wn.pos (by rw [jeq (by omega) (by omega)]; exact hc) (Wn.pos ?_ fin2)
    rw [one]
    exact wy_chain hW hV hc
  · exact Wn.neg (by rw [jeq (by omega) (by omega)]; exact hc) fin2
theorem run_96 (hG : GI g) (hA : PA g a) (hK : KA g a) {x4 M : Nat} (hx4 : x4 < 100) (hM : M ≤ mxA (ch g.2.1.2.1 g.2.1.2.2.2) g.2.1.2.2.1) : ∀ (m k f e : Nat) (w : Wd) (S : Nat → Nat), m + k = g.2.1.2.2.1 → dgP (LR g.2.1.2.1 g.2.1.2.2.2 g.2.1.2.2.1) k S → St w ((k, S), g.2) a →
    (f = 0 ∧ e = 1 ∧ (∀ j, j < k → LR g.2.1.2.1 g.2.1.2.2.2 g.2.1.2.2.1 j = g.2.1.2.2.2 j) ∨ f = 1 ∧ e = 0 ∧ ∃ j, j < k ∧ LR g.2.1.2.1 g.2.1.2.2.2 g.2.1.2.2.1 j ≠ g.2.1.2.2.2 j) →
    Wn (x_L_run 96 [] [some (zr 7 0), some (zr 30 0), some (zi (nI g.2.1.2.2.1)), some (zi (nI 0)), some (zi (nI x4)), some (zi (nI f)), some (zi (nI e)), some (zi (nI M)), some (zi (nI k)), none, none, none, none, none, none, none, none, none] w) (RnP g a) := by
  obtain ⟨hW, hE, hN, hV⟩ := hG.2.1
  have hn24 := hV.1
  have hlt := wy_lt hW hV
  have hpos := wy_pos hW hV
  intro m
  induction m with
  | zero =>
    intro k f e w S hm hd hS hfe
    have ek : k = g.2.1.2.2.1 := by omega
    subst ek
    have hG1 : GI ((g.2.1.2.2.1, S), g.2) := ⟨dgP_SK hd (show g.2.1.2.2.1 ≤ 40 by omega), hG.2⟩
    have hO : okR g.2.1.2.2.1 S := dgP_ok hd hn24
    have hv : vb g.2.1.1 g.2.1.2.1 (padR S) g.2.1.2.2.1 = true := by
      rw [vb_cg _ fun j hj => dgP_R hd hj]
      exact (LR_VR hV).2.2
    have hpad : LE g.2.1.2.1 g.2.1.2.2.2 g.2.1.2.2.1 (padR S) := LE_cg (LR_LE (P := g.2.1.2.1) hV.2.1) fun j hj => dgP_R hd hj
    rw [e_L_run_96]
    refine Wn.pos (by rw [jle (by omega) (by omega)]; exact Nat.le_refl _) ?_
    refine Wn.call (k_alikeRuns hG1) hS fun w1 s1 => ?_
    refine Wn.call (k_chain hG1) s1 fun w2 s2 => ?_
    refine Wn.call (k_alike hG1 hO hv) s2 fun w3 s3 => ?_
    refine Wn.pos ?_ ?_
    · show nI (if (decide (g.2.1.2.2.1 = g.2.1.2.2.1) && eqU (LR g.2.1.2.1 g.2.1.2.2.2 g.2.1.2.2.1) (LR g.2.1.2.1 (padR S) g.2.1.2.2.1) g.2.1.2.2.1) = true then 1 else 0) = nI 1
      rw [eqU_yes _ fun i hi => (Pm_LR (LE_Pm hV.2.1 hpad) i).symm]
      simp
    refine Wn.call (k_least hG1 (p := g.2.1.2.2.1) (by omega)) s3 fun w4 s4 => ?_
    refine Wn.pos (if_neg (Nat.lt_irrefl _)) ?_
    have lt1 : ¬ lg_cmp (lN (wy g.2.1.2.1 g.2.1.2.2.2 g.2.1.2.2.1)) (Int64.ofInt 1) < 0 := by
      rw [jlL, lcmpLT hlt (by decide)]
      omega
    refine Wn.neg lt1 ?_
    have fin := run_276 hG hA hK hd hx4 hM s4
    rcases hfe with ⟨rfl, rfl, hall⟩ | ⟨rfl, rfl, j, hj, hne⟩
    · refine Wn.neg (by decide) ?_
      by_cases h0 : g.2.1.2.2.1 = 0
      · exact Wn.pos (by rw [jle0 (by omega)]; exact h0) (Wn.neg (by decide) fin)
      · exact Wn.neg (by rw [jle0 (by omega)]; exact h0) (Wn.neg lt1 (Wn.neg (by decide) fin))
    · refine Wn.pos rfl (Wn.pos rfl (Wn.neg ?_ fin))
      have h2 := wy_two hW hV hj hne
      show ¬ lg_cmp (lN _) (lN 2) < 0
      rw [lcmpLT hlt (by decide)]
      omega
  | succ m ih =>
    intro k f e w S hm hd hS hfe
    have hkn : k < g.2.1.2.2.1 := by omega
    have hG1 : GI ((k, S), g.2) := ⟨dgP_SK hd (show k ≤ 40 by omega), hG.2⟩
    have ht := LR_lt hV hkn
    have hRk := hV.2.1 k hkn
    obtain ⟨q1, q2⟩ := put1 _ ht
    have e1 : nI k + Int32.ofInt 1 = nI (k + 1) := nI_add k 1
    rw [e_L_run_96]
    refine Wn.neg (by rw [jle (by omega) (by omega)]; omega) ?_
    refine Wn.call (k_least hG1 (p := k) (by omega)) hS fun w1 s1 => ?_
    have ev : (if k < g.2.1.2.2.1 then nI (LR g.2.1.2.1 g.2.1.2.2.2 g.2.1.2.2.1 k) else Int32.ofInt (-6)) = nI (LR g.2.1.2.1 g.2.1.2.2.2 g.2.1.2.2.1 k) := if_pos hkn
    have eR := KA_R (g := ((k, S), g.2)) hK s1 hn24 hkn
    have s184 : ∀ f' e', (f' = 0 ∧ e' = 1 ∧ (∀ j, j < k + 1 → LR g.2.1.2.1 g.2.1.2.2.2 g.2.1.2.2.1 j = g.2.1.2.2.2 j) ∨ f' = 1 ∧ e' = 0 ∧ ∃ j, j < k + 1 ∧ LR g.2.1.2.1 g.2.1.2.2.2 g.2.1.2.2.1 j ≠ g.2.1.2.2.2 j) →
        Wn (x_L_run 161 [zi (nI e')] [some (zr 7 0), some (zr 30 0), some (zi (nI g.2.1.2.2.1)), some (zi (nI 0)), some (zi (nI x4)), some (zi (nI f')), none, some (zi (nI M)), some (zi (nI k)), some (zi (nI (LR g.2.1.2.1 g.2.1.2.2.2 g.2.1.2.2.1 k))), none, none, none, none, none, none, none, none] w1) (RnP g a) := fun f' e' h => by
      have h84 : Wn (x_L_run 184 [] [some (zr 7 0), some (zr 30 0), some (zi (nI g.2.1.2.2.1)), some (zi (nI 0)), some (zi (nI x4)), some (zi (nI f')), some (zi (nI e')), some (zi (nI M)), some (zi (nI k)), some (zi (nI (LR g.2.1.2.1 g.2.1.2.2.2 g.2.1.2.2.1 k))), none, none, none, none, none, none, none, none] w1) (RnP g a) := by
        rw [e_L_run_184]
        refine Wn.call (k_put (g := ((k, S), g.2)) (y := y1 (LR g.2.1.2.1 g.2.1.2.2.2 g.2.1.2.2.1 k)) q1 (by decide) (show k + 1 ≤ 40 by omega)) s1 fun w2 s2 => ?_
        refine Wn.pos (by rw [e1]) ?_
        rw [e1]
        exact ih (k + 1) f' e' w2 _ (by omega) (dgP_put hd ht rfl) s2 h
      rw [e_L_run_161]
      refine Wn.neg (by rw [jlt0 (by omega)]; exact id) ?_
      refine Wn.neg (by rw [jl, jlt (by decide) (by omega)]; omega) ?_
      rcases h with ⟨rfl, rfl, -⟩ | ⟨rfl, rfl, -⟩
      · exact Wn.pos rfl (Wn.neg (by decide) h84)
      · exact Wn.neg (by decide) h84
    have c137 : ∀ f' e0, x_L_run 137 [zi (nI f')] [some (zr 7 0), some (zr 30 0), some (zi (nI g.2.1.2.2.1)), some (zi (nI 0)), some (zi (nI x4)), none, some (zi (nI e0)), some (zi (nI M)), some (zi (nI k)), some (zi (nI (LR g.2.1.2.1 g.2.1.2.2.2 g.2.1.2.2.1 k))), none, none, none, none, none, none, none, none] w1 =
        (if nI e0 = 0 then x_L_run 161 [zi (nI 0)] [some (zr 7 0), some (zr 30 0), some (zi (nI g.2.1.2.2.1)), some (zi (nI 0)), some (zi (nI x4)), some (zi (nI f')), none, some (zi (nI M)), some (zi (nI k)), some (zi (nI (LR g.2.1.2.1 g.2.1.2.2.2 g.2.1.2.2.1 k))), none, none, none, none, none, none, none, none] w1 else
          if LR g.2.1.2.1 g.2.1.2.2.2 g.2.1.2.2.1 k = g.2.1.2.2.2 k then x_L_run 161 [zi (nI 1)] [some (zr 7 0), some (zr 30 0), some (zi (nI g.2.1.2.2.1)), some (zi (nI 0)), some (zi (nI x4)), some (zi (nI f')), none, some (zi (nI M)), some (zi (nI k)), some (zi (nI (LR g.2.1.2.1 g.2.1.2.2.2 g.2.1.2.2.1 k))), none, none, none, none, none, none, none, none] w1
          else x_L_run 161 [zi (nI 0)] [some (zr 7 0), some (zr 30 0), some (zi (nI g.2.1.2.2.1)), some (zi (nI 0)), some (zi (nI x4)), some (zi (nI f')), none, some (zi (nI M)), some (zi (nI k)), some (zi (nI (LR g.2.1.2.1 g.2.1.2.2.2 g.2.1.2.2.1 k))), none, none, none, none, none, none, none, none] w1) := fun f' e0 => by
      rw [e_L_run_137]
      simp (disch := omega) only [jl, nI_add, jchk, jcl, eR, jeq]
    have lift : Wn (if nI f = 0 then (if nI e = 0 then (x_L_run 137 [zi (nI 0)] [some (zr 7 0), some (zr 30 0), some (zi (nI g.2.1.2.2.1)), some (zi (nI 0)), some (zi (nI x4)), none, some (zi (nI e)), some (zi (nI M)), some (zi (nI k)), some (zi (nI (LR g.2.1.2.1 g.2.1.2.2.2 g.2.1.2.2.1 k))), none, none, none, none, none, none, none, none] w1) else (if g.2.1.2.2.2 k ≤ LR g.2.1.2.1 g.2.1.2.2.2 g.2.1.2.2.1 k then (x_L_run 137 [zi (nI 0)] [some (zr 7 0), some (zr 30 0), some (zi (nI g.2.1.2.2.1)), some (zi (nI 0)), some (zi (nI x4)), none, some (zi (nI e)), some (zi (nI M)), some (zi (nI k)), some (zi (nI (LR g.2.1.2.1 g.2.1.2.2.2 g.2.1.2.2.1 k))), none, none, none, none, none, none, none, none] w1) else (x_L_run 137 [zi (nI 1)] [some (zr 7 0), some (zr 30 0), some (zi (nI g.2.1.2.2.1)), some (zi (nI 0)), some (zi (nI x4)), none, some (zi (nI e)), some (zi (nI M)), some (zi (nI k)), some (zi (nI (LR g.2.1.2.1 g.2.1.2.2.2 g.2.1.2.2.1 k))), none, none, none, none, none, none, none, none] w1))) else (x_L_run 137 [zi (nI 1)] [some (zr 7 0), some (zr 30 0), some (zi (nI g.2.1.2.2.1)), some (zi (nI 0)), some (zi (nI x4)), none, some (zi (nI e)), some (zi (nI M)), some (zi (nI k)), some (zi (nI (LR g.2.1.2.1 g.2.1.2.2.2 g.2.1.2.2.1 k))), none, none, none, none, none, none, none, none] w1)) (RnP g a) := by
      rcases hfe with ⟨rfl, rfl, hall⟩ | ⟨rfl, rfl, j, hj, hne⟩
      · have hle := LR_lex (P := g.2.1.2.1) hV.2.1 hkn hall
        refine Wn.pos rfl (Wn.neg (by decide) ?_)
        by_cases he : LR g.2.1.2.1 g.2.1.2.2.2 g.2.1.2.2.1 k = g.2.1.2.2.2 k
        · refine Wn.pos (by omega) (Wn.rw (c137 _ _) (Wn.neg (by decide) (Wn.pos he ?_)))
          refine s184 0 1 (Or.inl ⟨rfl, rfl, fun j hj => ?_⟩)
          by_cases e2 : j = k
          · rw [e2]; exact he
          · exact hall j (by omega)
        · refine Wn.neg (by omega) (Wn.rw (c137 _ _) (Wn.neg (by decide) (Wn.neg he ?_)))
          exact s184 1 0 (Or.inr ⟨rfl, rfl, k, by omega, he⟩)
      · refine Wn.neg (by decide) (Wn.rw (c137 _ _) (Wn.pos rfl ?_))
        exact s184 1 0 (Or.inr ⟨rfl, rfl, j, by omega, hne⟩)
    show Wn (if nI f = 0 then (if nI e = 0 then (x_L_run 137 [zi (Int32.ofInt 0)] [some (zr 7 0), some (zr 30 0), some (zi (nI g.2.1.2.2.1)), some (zi (nI 0)), some (zi (nI x4)), none, some (zi (nI e)), some (zi (nI M)), some (zi (nI k)), some (zi (if k < g.2.1.2.2.1 then nI (LR g.2.1.2.1 g.2.1.2.2.2 g.2.1.2.2.1 k) else Int32.ofInt (-6))), none, none, none, none, none, none, none, none] w1) else (chk ((Int32.ofInt 28) + nI k) 60 (if (w1.1 30 0 ((Int32.ofInt 28) + nI k).toNatClampNeg) ≤ (if k < g.2.1.2.2.1 then nI (LR g.2.1.2.1 g.2.1.2.2.2 g.2.1.2.2.1 k) else Int32.ofInt (-6)) then (x_L_run 137 [zi (Int32.ofInt 0)] [some (zr 7 0), some (zr 30 0), some (zi (nI g.2.1.2.2.1)), some (zi (nI 0)), some (zi (nI x4)), none, some (zi (nI e)), some (zi (nI M)), some (zi (nI k)), some (zi (if k < g.2.1.2.2.1 then nI (LR g.2.1.2.1 g.2.1.2.2.2 g.2.1.2.2.1 k) else Int32.ofInt (-6))), none, none, none, none, none, none, none, none] w1) else (x_L_run 137 [zi (Int32.ofInt 1)] [some (zr 7 0), some (zr 30 0), some (zi (nI g.2.1.2.2.1)), some (zi (nI 0)), some (zi (nI x4)), none, some (zi (nI e)), some (zi (nI M)), some (zi (nI k)), some (zi (if k < g.2.1.2.2.1 then nI (LR g.2.1.2.1 g.2.1.2.2.2 g.2.1.2.2.1 k) else Int32.ofInt (-6))), none, none, none, none, none, none, none, none] w1)))) else (x_L_run 137 [zi (Int32.ofInt 1)] [some (zr 7 0), some (zr 30 0), some (zi (nI g.2.1.2.2.1)), some (zi (nI 0)), some (zi (nI x4)), none, some (zi (nI e)), some (zi (nI M)), some (zi (nI k)), some (zi (if k < g.2.1.2.2.1 then nI (LR g.2.1.2.1 g.2.1.2.2.2 g.2.1.2.2.1 k) else Int32.ofInt (-6))), none, none, none, none, none, none, none, none] w1)) (RnP g a)
    rw [ev]
    simp (disch := omega) only [jl, nI_add, jchk, jcl, eR, jle]
    exact lift
theorem m_run (hG : GI g) (hA : PA g a) (hK : KA g a) {w : Wd} (hS : St w g a) : Wn (f_L_run 0 0 w) (RnP g a) := by
  have hV := hG.2.1.2.2.2
  have hn24 := hV.1
  have hp := hG.1.1
  have e56 : w.1 30 0 56 = nI g.2.1.2.2.1 := by rw [hS.2 56 (by decide), hK.1]
  rw [e_L_run]
  refine Wn.chk (x := 56) (by decide) (by decide) ?_
  refine Wn.call k_wipe hS fun w1 s1 => ?_
  show Wn (x_L_run 16 [] [some (zr 7 0), some (zr 30 0), some (zi (w.1 30 0 56)), some (zi (nI 0)), some (zi (nI g.1.1)), some (zi (nI 0)), none, none, none, none, none, none, none, none, none, none, none, none] w1) (RnP g a)
  rw [e56, e_L_run_16]
  have hGw := wipG_GI hG
  have hKw : KA (wipG g) a := hK
  obtain ⟨M, h1, h2⟩ := run_25 hGw hKw s1 (x3 := nI 0) (x4 := nI g.1.1) (x5 := nI 0) (x6 := nI 1) 4 0 0 rfl (Nat.zero_le _)
  refine Wn.rw h2 ?_
  exact run_96 hG hA hK (x4 := g.1.1) (by omega) h1 g.2.1.2.2.1 0 0 1 w1 g.1.2 (Nat.add_zero _) (fun j hj => by omega) s1 (Or.inl ⟨rfl, rfl, fun j hj => by omega⟩)
end RV
