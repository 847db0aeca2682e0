/-! THE LAW looks at the stands, to the end. -/
section SF
variable {g : Gst} {a : Nat → Nat}
theorem st_471 (hG : GI g) (hA : PA g a) {v : Nat} (hv : Sh g.2.1.1 g.2.1.2.1 (ndl g.2.1.1 g.2.1.2.1) v) {w : Wd} (hS : St w g a) :
    Wn (x_L_stands 471 [zi (if ndl g.2.1.1 g.2.1.2.1 = 0 then Int32.ofInt (-6) else nI v), zi (oI (shN g.2.1.1 g.2.1.2.1 2401))] [some (zr 7 0), some (zr 30 0), none, some (zi (nI (ndl g.2.1.1 g.2.1.2.1))), some (zi (nI v)), none, none, none, none, none, none, none, none, none, none, none] w) fun w' => St w' g a := by
  have hW := hG.2.1.1
  have hle := nd8_le (L := g.2.1.1) (P := g.2.1.2.1) 4096
  have hD : ndl g.2.1.1 g.2.1.2.1 ≤ 4096 := hle
  have hv25 := hv.2.2
  obtain ⟨e1, e2⟩ := Sh_end hW hv
  have hway : ∀ m, shN g.2.1.1 g.2.1.2.1 2401 = some m → m ≤ v := fun m hs => by
    by_cases h0 : ndl g.2.1.1 g.2.1.2.1 = 0
    · rw [(e1 h0).1] at hs
      cases hs
    · rw [e2 h0] at hs
      have e : v = m := Option.some.inj hs
      omega
  rw [e_L_stands_471]
  refine Wn.pos ?_ ?_
  · by_cases h0 : ndl g.2.1.1 g.2.1.2.1 = 0
    · rw [if_pos h0, (e1 h0).1]
      rfl
    · rw [if_neg h0, e2 h0]
      rfl
  refine Wn.call (k_wayn hG (by omega) hway) hS fun w1 s1 => ?_
  refine Wn.pos rfl ?_
  by_cases h0 : ndl g.2.1.1 g.2.1.2.1 = 0
  · refine Wn.neg (by rw [jgt0 (by omega)]; omega) ?_
    refine Wn.call (k_wayn hG (p := 0) (by decide) fun m hs => by rw [(e1 h0).1] at hs; cases hs) s1 fun w2 s2 => ?_
    refine Wn.pos rfl ?_
    exact st_509 hG hA 4 0 w2 rfl s2
  · refine Wn.pos (by rw [jgt0 (by omega)]; omega) ?_
    exact st_509 hG hA 4 0 w1 rfl s1
theorem st_395 (hG : GI g) (hA : PA g a) {v : Nat} (hv : Sh g.2.1.1 g.2.1.2.1 (ndl g.2.1.1 g.2.1.2.1) v) {w : Wd} (hS : St w g a) :
    Wn (x_L_stands 395 [zi (nI 1)] [some (zr 7 0), some (zr 30 0), some (zi (nI (ne8 g.2.1.1 g.2.1.2.1))), some (zi (nI (ndl g.2.1.1 g.2.1.2.1))), some (zi (nI v)), none, some (zl (lN (wh8 g.2.1.1 g.2.1.2.1))), none, none, none, none, none, none, none, none, none] w) fun w' => St w' g a := by
  have hW := hG.2.1.1
  have hle := nd8_le (L := g.2.1.1) (P := g.2.1.2.1) 4096
  have hD : ndl g.2.1.1 g.2.1.2.1 ≤ 4096 := hle
  have hEs := ne8_split (L := g.2.1.1) (P := g.2.1.2.1)
  have hf := nf8_le (P := g.2.1.2.1) hW
  have hge := ends_ge (P := g.2.1.2.1) hW
  have hlee := ends_le (P := g.2.1.2.1) hW
  have hwl := wh8_lt (P := g.2.1.2.1) hW
  have hcut := aR_cuts (P := g.2.1.2.1) hW 2401 (Nat.le_refl _)
  have eD : (nI (ndl g.2.1.1 g.2.1.2.1)).toInt64 = lN (ndl g.2.1.1 g.2.1.2.1) := nI_l (by omega)
  have eE : (nI (ne8 g.2.1.1 g.2.1.2.1)).toInt64 = lN (ne8 g.2.1.1 g.2.1.2.1) := nI_l (by omega)
  rw [e_L_stands_395]
  refine Wn.neg (by decide) ?_
  refine Wn.call (k_slp2 hG) hS fun w1 s1 => ?_
  refine Wn.pos (by rw [eD]; show lg_cmp (lN _) (lN _) = 0; rw [lcmpEQ (by omega) (by omega)]) ?_
  refine Wn.call (k_slp0 hG) s1 fun w2 s2 => ?_
  refine Wn.neg (by rw [eE]; show ¬ lg_cmp (lN _) (lN _) < 0; rw [lcmpLT (by omega) (by omega)]; omega) ?_
  refine Wn.call (k_slp0 hG) s2 fun w3 s3 => ?_
  refine Wn.neg (by show ¬ 0 < lg_cmp (lN _) (lN _); rw [lcmpGT (by omega) (by omega)]; omega) ?_
  refine Wn.call (k_slp1 hG) s3 fun w4 s4 => ?_
  refine Wn.neg (by show ¬ lg_cmp (lN _) (lN 0) < 0; rw [lcmpLT (by omega) (by decide)]; omega) ?_
  refine Wn.call (k_dl_no hG _) s4 fun w5 s5 => ?_
  refine Wn.pos rfl ?_
  refine Wn.call (k_way1 hG) s5 fun w6 s6 => ?_
  have fin := st_471 hG hA hv s6
  generalize oI (shN g.2.1.1 g.2.1.2.1 2401) = ov at fin ⊢
  by_cases h0 : ndl g.2.1.1 g.2.1.2.1 = 0
  · rw [if_pos h0] at fin
    exact Wn.pos (by rw [jeq0 (by omega)]; exact h0) fin
  · rw [if_neg h0] at fin
    exact Wn.neg (by rw [jeq0 (by omega)]; exact h0) fin
theorem st_352 (hG : GI g) (hA : PA g a) {v : Nat} (hv : Sh g.2.1.1 g.2.1.2.1 (ndl g.2.1.1 g.2.1.2.1) v) {w : Wd} (hS : St w g a) {b : Nat} (hb : b = if wd8 g.2.1.1 g.2.1.2.1 = 0 then 1 else 0) :
    Wn (x_L_stands 352 [zi (nI b)] [some (zr 7 0), some (zr 30 0), some (zi (nI (ne8 g.2.1.1 g.2.1.2.1))), some (zi (nI (ndl g.2.1.1 g.2.1.2.1))), some (zi (nI v)), none, some (zl (lN (wh8 g.2.1.1 g.2.1.2.1))), none, some (zl (lN (wd8 g.2.1.1 g.2.1.2.1))), none, none, none, none, none, none, none] w) fun w' => St w' g a := by
  have hW := hG.2.1.1
  have hle := nd8_le (L := g.2.1.1) (P := g.2.1.2.1) 4096
  have hD : ndl g.2.1.1 g.2.1.2.1 ≤ 4096 := hle
  have hEs := ne8_split (L := g.2.1.1) (P := g.2.1.2.1)
  have hWs := wh8_split (L := g.2.1.1) (P := g.2.1.2.1)
  have hf := nf8_le (P := g.2.1.2.1) hW
  have hwl := wh8_lt (P := g.2.1.2.1) hW
  have hwg := wf8_ge (L := g.2.1.1) (P := g.2.1.2.1)
  have hdg := wd8_ge (L := g.2.1.1) (P := g.2.1.2.1)
  have hd0 := wd8_0 (L := g.2.1.1) (P := g.2.1.2.1)
  have hf0 := wf8_0 (L := g.2.1.1) (P := g.2.1.2.1)
  have fin := st_395 hG hA hv hS
  have f374 : Wn (if nI (ne8 g.2.1.1 g.2.1.2.1) ≤ nI (ndl g.2.1.1 g.2.1.2.1) then x_L_stands 374 [zi (nI 0)] [some (zr 7 0), some (zr 30 0), some (zi (nI (ne8 g.2.1.1 g.2.1.2.1))), some (zi (nI (ndl g.2.1.1 g.2.1.2.1))), some (zi (nI v)), none, some (zl (lN (wh8 g.2.1.1 g.2.1.2.1))), none, some (zl (lN (wd8 g.2.1.1 g.2.1.2.1))), none, none, none, none, none, none, none] w
      else x_L_stands 374 [zi (nI 1)] [some (zr 7 0), some (zr 30 0), some (zi (nI (ne8 g.2.1.1 g.2.1.2.1))), some (zi (nI (ndl g.2.1.1 g.2.1.2.1))), some (zi (nI v)), none, some (zl (lN (wh8 g.2.1.1 g.2.1.2.1))), none, some (zl (lN (wd8 g.2.1.1 g.2.1.2.1))), none, none, none, none, none, none, none] w) fun w' => St w' g a := by
    by_cases h0 : nf8 g.2.1.1 g.2.1.2.1 = 0
    · have := hf0 h0
      refine Wn.pos (by rw [jle (by omega) (by omega)]; omega) ?_
      rw [e_L_stands_374]
      exact Wn.pos (by rw [lcmpLE (by omega) (by omega)]; omega) (Wn.pos rfl fin)
    · refine Wn.neg (by rw [jle (by omega) (by omega)]; omega) ?_
      rw [e_L_stands_374]
      exact Wn.neg (by rw [lcmpLE (by omega) (by omega)]; omega) (Wn.pos rfl fin)
  rw [e_L_stands_352]
  by_cases h0 : ndl g.2.1.1 g.2.1.2.1 = 0
  · have hb1 : b = 1 := by rw [hb, if_pos (hd0 h0)]
    subst hb1
    exact Wn.pos (by rw [jeq0 (by omega)]; exact h0) (Wn.pos rfl f374)
  · have hb1 : b = 0 := by rw [hb, if_neg (by omega)]
    subst hb1
    exact Wn.neg (by rw [jeq0 (by omega)]; exact h0) (Wn.pos rfl f374)
theorem st_end (hG : GI g) (hA : PA g a) {v : Nat} (hv : Sh g.2.1.1 g.2.1.2.1 (ndl g.2.1.1 g.2.1.2.1) v) {x5 : Int32} {w : Wd} (hS : St w g a) :
    Wn (x_L_stands 22 [] [some (zr 7 0), some (zr 30 0), some (zi (nI (ne8 g.2.1.1 g.2.1.2.1))), some (zi (nI (ndl g.2.1.1 g.2.1.2.1))), some (zi (nI v)), some (zi x5), some (zi (nI (ndl g.2.1.1 g.2.1.2.1))), none, none, none, none, none, none, none, none, none] w) fun w' => St w' g a := by
  have hW := hG.2.1.1
  have hle := nd8_le (L := g.2.1.1) (P := g.2.1.2.1) 4096
  have hD : ndl g.2.1.1 g.2.1.2.1 ≤ 4096 := hle
  have hEs := ne8_split (L := g.2.1.1) (P := g.2.1.2.1)
  have hWs := wh8_split (L := g.2.1.1) (P := g.2.1.2.1)
  have hf := nf8_le (P := g.2.1.2.1) hW
  have hEp := ne8_pos (P := g.2.1.2.1) hW
  have hER := ne8_nr (L := g.2.1.1) (P := g.2.1.2.1)
  have hRl := nr8_le (P := g.2.1.2.1) hW
  have hwl := wh8_lt (P := g.2.1.2.1) hW
  have hwg := wf8_ge (L := g.2.1.1) (P := g.2.1.2.1)
  have hdg := wd8_ge (L := g.2.1.1) (P := g.2.1.2.1)
  have hprod : (g.2.1.1 0 + 1) * (g.2.1.1 1 + 1) * (g.2.1.1 2 + 1) * (g.2.1.1 3 + 1) ≤ 625 := by
    have b0 := (hA.1 0 (by decide)).2
    have b1 := (hA.1 1 (by decide)).2
    have b2 := (hA.1 2 (by decide)).2
    have b3 := (hA.1 3 (by decide)).2
    exact Nat.mul_le_mul (Nat.mul_le_mul (Nat.mul_le_mul (show g.2.1.1 0 + 1 ≤ 5 by omega) (show g.2.1.1 1 + 1 ≤ 5 by omega)) (show g.2.1.1 2 + 1 ≤ 5 by omega)) (show g.2.1.1 3 + 1 ≤ 5 by omega)
  have eD : (nI (ndl g.2.1.1 g.2.1.2.1)).toInt64 = lN (ndl g.2.1.1 g.2.1.2.1) := nI_l (by omega)
  have eE : (nI (ne8 g.2.1.1 g.2.1.2.1)).toInt64 = lN (ne8 g.2.1.1 g.2.1.2.1) := nI_l (by omega)
  have eS : nI (ne8 g.2.1.1 g.2.1.2.1) - nI (ndl g.2.1.1 g.2.1.2.1) = nI (nf8 g.2.1.1 g.2.1.2.1) := by
    rw [jsub (by omega)]
    congr 1
    omega
  have eF : (nI (nf8 g.2.1.1 g.2.1.2.1)).toInt64 = lN (nf8 g.2.1.1 g.2.1.2.1) := nI_l (by omega)
  have eW : lN (wh8 g.2.1.1 g.2.1.2.1) - lN (wd8 g.2.1.1 g.2.1.2.1) = lN (wf8 g.2.1.1 g.2.1.2.1) := by
    rw [lN_sub (by omega)]
    congr 1
    omega
  rw [e_L_stands_22]
  refine Wn.pos (by rw [jle (by omega) (by omega)]; exact Nat.le_refl _) ?_
  refine Wn.call (k_runs0 hG) hS fun w1 s1 => ?_
  refine Wn.call (k_runs1 hG) s1 fun w2 s2 => ?_
  refine Wn.chk (x := 0) (by decide) (by decide) (Wn.chk (x := 1) (by decide) (by decide) (Wn.chk (x := 2) (by decide) (by decide) (Wn.chk (x := 3) (by decide) (by decide) ?_)))
  refine Wn.neg (by rw [jle0 (by omega)]; omega) ?_
  refine Wn.neg (by rw [jlt (by omega) (by omega)]; omega) ?_
  rw [eS]
  refine Wn.neg (by rw [jl, jle (by decide) (by omega)]; omega) ?_
  refine Wn.call (k_stands0 hG) s2 fun w3 s3 => ?_
  refine Wn.neg (by show ¬ nI _ < nI _; rw [jlt (by omega) (by omega)]; omega) ?_
  refine Wn.call (k_stands0 hG) s3 fun w4 s4 => ?_
  have p0 : w2.1 30 0 0 = nI (g.2.1.1 0) := PA_L hA s2 (by decide)
  have p1 : w2.1 30 0 1 = nI (g.2.1.1 1) := PA_L hA s2 (by decide)
  have p2 : w2.1 30 0 2 = nI (g.2.1.1 2) := PA_L hA s2 (by decide)
  have p3 : w2.1 30 0 3 = nI (g.2.1.1 3) := PA_L hA s2 (by decide)
  refine Wn.neg ?_ ?_
  · show ¬ (((w2.1 30 0 0 + nI 1) * (w2.1 30 0 1 + nI 1)) * (w2.1 30 0 2 + nI 1)) * (w2.1 30 0 3 + nI 1) < nI (nr8 g.2.1.1 g.2.1.2.1)
    rw [p0, p1, p2, p3]
    simp only [nI_add, jmul]
    rw [jlt (by omega) (by omega)]
    omega
  refine Wn.neg (by rw [eE]; show ¬ lg_cmp (lN _) (lN _) < 0; rw [lcmpLT (by omega) (by omega)]; omega) ?_
  refine Wn.neg (by rw [eD]; show ¬ lg_cmp (lN _) (lN _) < 0; rw [lcmpLT (by omega) (by omega)]; omega) ?_
  refine Wn.neg ?_ ?_
  · show ¬ lg_cmp (lN (wh8 g.2.1.1 g.2.1.2.1) - lN (wd8 g.2.1.1 g.2.1.2.1)) (nI (nf8 g.2.1.1 g.2.1.2.1)).toInt64 < 0
    rw [eW, eF, lcmpLT (by omega) (by omega)]
    omega
  by_cases h0 : wd8 g.2.1.1 g.2.1.2.1 = 0
  · exact Wn.pos (by show lg_cmp (lN _) (lN 0) = 0; rw [lcmpEQ (by omega) (by decide)]; exact h0) (st_352 hG hA hv s4 (b := 1) (by rw [if_pos h0]))
  · exact Wn.neg (by show ¬ lg_cmp (lN _) (lN 0) = 0; rw [lcmpEQ (by omega) (by decide)]; exact h0) (st_352 hG hA hv s4 (b := 0) (by rw [if_neg h0]))
theorem st_22 (hG : GI g) (hA : PA g a) : ∀ (m i v : Nat) (x5 : Int32) (w : Wd), m + i = ndl g.2.1.1 g.2.1.2.1 → Sh g.2.1.1 g.2.1.2.1 i v → Bf g.2.1.1 g.2.1.2.1 i x5 → St w g a →
    Wn (x_L_stands 22 [] [some (zr 7 0), some (zr 30 0), some (zi (nI (ne8 g.2.1.1 g.2.1.2.1))), some (zi (nI (ndl g.2.1.1 g.2.1.2.1))), some (zi (nI v)), some (zi x5), some (zi (nI i)), none, none, none, none, none, none, none, none, none] w) fun w' => St w' g a := by
  have hW := hG.2.1.1
  have hle := nd8_le (L := g.2.1.1) (P := g.2.1.2.1) 4096
  have hD : ndl g.2.1.1 g.2.1.2.1 ≤ 4096 := hle
  intro m
  induction m with
  | zero =>
    intro i v x5 w hm hv hxb hS
    have e : i = ndl g.2.1.1 g.2.1.2.1 := by omega
    rw [e] at hv ⊢
    exact st_end hG hA hv hS
  | succ m ih =>
    intro i v x5 w hm hv hxb hS
    have hi : i < ndl g.2.1.1 g.2.1.2.1 := by omega
    obtain ⟨c, c1, c2, c3⟩ := nd_ex (L := g.2.1.1) (P := g.2.1.2.1) (i := i) 4096 hi
    have hr := ds_reach ds8 hW c c1 (dB8_W c2)
    have h6 : ∀ u, u < 4 → d8 c u ≤ 6 := fun u hu => Nat.le_trans (hr u hu) (hW u hu).1
    have r0 := hr 0 (by decide)
    have r1 := hr 1 (by decide)
    have r2 := hr 2 (by decide)
    have r3 := hr 3 (by decide)
    have b0 := (hA.1 0 (by decide)).2
    have b1 := (hA.1 1 (by decide)).2
    have b2 := (hA.1 2 (by decide)).2
    have b3 := (hA.1 3 (by decide)).2
    have hlen : len4 (d8 c) ≤ 16 := by unfold len4; omega
    have hv25 := hv.2.2
    have hcode : code7 c < 4096 := by unfold code7; omega
    have e1 : nI i + Int32.ofInt 1 = nI (i + 1) := nI_add i 1
    have hnx : msk (fun t => decide (d8 c t < g.2.1.1 t)) ≠ 0 := by
      rw [Ne, msk_nx]
      unfold dB8 deadS at c2
      simp only [Bool.and_eq_true] at c2
      rw [c2.2.2]
      decide
    have hbef : ¬ nI (code7 c) ≤ x5 := by
      rcases hxb with ⟨-, rfl⟩ | ⟨c', d1, d2, d3, rfl⟩
      · intro h
        have h2 : nI (code7 c) < 0 := Int32.lt_of_le_of_lt h (by decide)
        rw [jlt0 (by omega)] at h2
        exact h2
      · have hr' := ds_reach ds8 hW c' d1 (dB8_W d2)
        have h6' : ∀ u, u < 4 → d8 c' u ≤ 6 := fun u hu => Nat.le_trans (hr' u hu) (hW u hu).1
        have hlt : c' < c := by
          rcases Nat.lt_or_ge c' c with q | q
          · exact q
          · have := zsm_pre (f := nd8 g.2.1.1 g.2.1.2.1) q
            omega
        have hcl := code7_lt d1 c1 h6' h6 hlt
        rw [jle (by omega) (by omega)]
        omega
    have hsh : Sh g.2.1.1 g.2.1.2.1 (i + 1) (if v ≤ len4 (d8 c) then v else len4 (d8 c)) := by
      refine ⟨fun c' h1 h2 h3 => ?_, ?_, by split <;> omega⟩
      · by_cases e : zsm (nd8 g.2.1.1 g.2.1.2.1) c' = i
        · have : c' = c := nd_uniq (f := nd8 g.2.1.1 g.2.1.2.1) (by unfold nd8; rw [h2]; rfl) (by unfold nd8; rw [c2]; rfl) e c3
          rw [this]
          split <;> omega
        · have := hv.1 c' h1 h2 (by omega)
          split <;> omega
      · by_cases e : v ≤ len4 (d8 c)
        · rw [if_pos e]
          exact hv.2.1
        · rw [if_neg e]
          exact Or.inr ⟨c, c1, c2, rfl⟩
    rw [e_L_stands_22]
    refine Wn.neg (by rw [jle (by omega) (by omega)]; omega) ?_
    rw [e_L_stands_40]
    refine st_step hG hA c1 c2 c3 (t := 0) (by decide) (cv := 0) (lv := 0) (nv := 0) (kv := 0) (fun w1 s1 => ?_) hS
    refine st_step hG hA c1 c2 c3 (t := 1) (by decide) (fun w2 s2 => ?_) s1
    refine st_step hG hA c1 c2 c3 (t := 2) (by decide) (fun w3 s3 => ?_) s2
    refine st_step hG hA c1 c2 c3 (t := 3) (by decide) (fun w4 s4 => ?_) s3
    have f1 : 7 * (7 * (7 * (7 * 0 + d8 c 0) + d8 c 1) + d8 c 2) + d8 c 3 = code7 c := by unfold code7; omega
    have f2 : 0 + d8 c 0 + d8 c 1 + d8 c 2 + d8 c 3 = len4 (d8 c) := by unfold len4; omega
    have f3 : (((0 ||| if d8 c 0 < g.2.1.1 0 then 2 ^ 0 else 0) ||| if d8 c 1 < g.2.1.1 1 then 2 ^ 1 else 0) ||| if d8 c 2 < g.2.1.1 2 then 2 ^ 2 else 0) ||| (if d8 c 3 < g.2.1.1 3 then 2 ^ 3 else 0) = msk (fun t => decide (d8 c t < g.2.1.1 t)) := by
      rw [msk_def, Nat.zero_or]
      simp only [decide_eq_true_eq]
      try rfl
    have f4 : ((((0 ||| hx g.2.1.2.1 0 (d8 c 0)) ||| hx g.2.1.2.1 1 (d8 c 1)) ||| hx g.2.1.2.1 2 (d8 c 2)) ||| hx g.2.1.2.1 3 (d8 c 3)) = or4 (fun u => hx g.2.1.2.1 u (d8 c u)) := by
      rw [Nat.zero_or]
      rfl
    rw [f1, f2, f3, f4, e_L_stands_43]
    have hmsk := msk_lt (fun t => decide (d8 c t < g.2.1.1 t))
    refine Wn.pos (by decide) (Wn.neg hbef (Wn.neg (by rw [jeq0 (by omega)]; exact hnx) ?_))
    refine Wn.call (k_dl hG c1 c2 c3 (q := 4) (by decide)) s4 fun w5 s5 => ?_
    refine Wn.pos rfl ?_
    refine Wn.call (k_dl hG c1 c2 c3 (q := 5) (by decide)) s5 fun w6 s6 => ?_
    refine Wn.pos rfl ?_
    refine Wn.call (k_dl hG c1 c2 c3 (q := 6) (by decide)) s6 fun w7 s7 => ?_
    refine Wn.pos rfl ?_
    have hnext := ih (i + 1) (if v ≤ len4 (d8 c) then v else len4 (d8 c)) (nI (code7 c)) w7 (by omega) hsh (Or.inr ⟨c, c1, c2, by rw [c3], rfl⟩) s7
    rw [e1]
    by_cases e : v ≤ len4 (d8 c)
    · rw [if_pos e] at hnext
      exact Wn.pos (by rw [jle (by omega) (by omega)]; exact e) hnext
    · rw [if_neg e] at hnext
      exact Wn.neg (by rw [jle (by omega) (by omega)]; exact e) hnext
theorem m_stands (hG : GI g) (hA : PA g a) {w : Wd} (hS : St w g a) : Wn (f_L_stands 0 0 w) fun w' => St w' g a := by
  rw [e_L_stands]
  refine Wn.call (k_stands1 hG) hS fun w1 s1 => ?_
  refine Wn.call (k_stands2 hG) s1 fun w2 s2 => ?_
  rw [e_L_stands_19]
  exact st_22 hG hA (ndl g.2.1.1 g.2.1.2.1) 0 25 (Int32.ofInt (-1)) w2 (Nat.add_zero _) ⟨fun c _ _ h => absurd h (Nat.not_lt_zero _), Or.inl rfl, Nat.le_refl _⟩ (Or.inl ⟨rfl, rfl⟩) s2
end SF
