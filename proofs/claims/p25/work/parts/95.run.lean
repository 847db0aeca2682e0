/-! THE LAW looks at the kept run. -/
section RU
theorem lcmpLT {a b : Nat} (ha : a < 9223372036854775808) (hb : b < 9223372036854775808) : (lg_cmp (lN a) (lN b) < 0) = (a < b) := by
  rw [lg_cmp_lt]
  exact propext (pk_lLT ha hb)
theorem lcmpEQ {a b : Nat} (ha : a < 9223372036854775808) (hb : b < 9223372036854775808) : (lg_cmp (lN a) (lN b) = 0) = (a = b) := by
  rw [lg_cmp_eq]
  exact propext (pk_lEQ ha hb)
theorem lcmpGT {a b : Nat} (ha : a < 9223372036854775808) (hb : b < 9223372036854775808) : (0 < lg_cmp (lN a) (lN b)) = (b < a) := by
  rw [lg_cmp_gt]
  exact propext (pk_lLT hb ha)
theorem lcmpLE {a b : Nat} (ha : a < 9223372036854775808) (hb : b < 9223372036854775808) : (lg_cmp (lN a) (lN b) ≤ 0) = (a ≤ b) := by
  rw [lg_cmp_le]
  exact propext (pk_lLE ha hb)
theorem eqU_yes {a b : Nat → Nat} : ∀ n, (∀ i, i < n → a i = b i) → eqU a b n = true
  | 0, _ => rfl
  | n + 1, h => by
    rw [eqU, eqU_yes n fun i hi => h i (by omega), h n (by omega)]
    simp
section MA
variable {L : Nat → Nat} {P : Nat → Nat → Nat} {n : Nat} {R Q B : Nat → Nat}
theorem LE_cg (h : LE P R n Q) (hB : ∀ i, i < n → B i = Q i) : LE P R n B := by
  refine ⟨fun i hi => by rw [hB i hi]; exact h.1 i hi, fun i hi => ?_⟩
  have e : sd B i = sd Q i := by
    funext u
    exact dn_cg (fun j hj => hB j (by omega)) u
  rw [e, hB i hi]
  exact h.2 i hi
theorem wy_LE (hW : WP L P) (hV : VR L P n R) (h : LE P R n B) : wy P B n = wy P R n := by
  unfold wy
  rw [Pm_WO (LE_Pm hV.2.1 h)]
  obtain ⟨a1, a2⟩ := LE_st hW hV h (Nat.le_refl n)
  obtain ⟨b1, b2⟩ := LE_st hW hV (self_LE (P := P) hV.2.1) (Nat.le_refl n)
  have e : ∀ u, u < 4 → d8 (stN g8 B n) u = d8 (stN g8 R n) u := fun u hu => by
    rw [a2, b2]
    exact LE_eq hV.2.1 h hu
  rw [show stN g8 B n = stN g8 R n by
    rw [d8_num a1, d8_num b1, e 0 (by decide), e 1 (by decide), e 2 (by decide), e 3 (by decide)]]
end MA
variable {g : Gst} {a : Nat → Nat}
theorem KA_R (hK : KA g a) {w : Wd} (hS : St w g a) (hn : g.2.1.2.2.1 ≤ 24) {k : Nat} (hk : k < g.2.1.2.2.1) : w.1 30 0 (28 + k) = nI (g.2.1.2.2.2 k) := by
  rw [hS.2 _ (by omega), hK.2 k hk]
/-! the most steps of a thread -/
theorem run_37 (hG : GI g) (hK : KA g a) {w : Wd} (hS : St w g a) {x3 x4 x5 x6 : Int32} {t M : Nat} (ht : t < 4) (hM : M ≤ 24) : ∀ (m k : Nat), m + k = g.2.1.2.2.1 →
    x_L_run 37 [] [some (zr 7 0), some (zr 30 0), some (zi (nI g.2.1.2.2.1)), some (zi x3), some (zi x4), some (zi x5), some (zi x6), some (zi (nI M)), some (zi (nI t)), some (zi (nI (dn g.2.1.2.2.2 t k))), some (zi (nI k)), none, none, none, none, none, none, none] w =
    x_L_run 25 [] [some (zr 7 0), some (zr 30 0), some (zi (nI g.2.1.2.2.1)), some (zi x3), some (zi x4), some (zi x5), some (zi x6), some (zi (nI (if dn g.2.1.2.2.2 t g.2.1.2.2.1 ≤ M then M else dn g.2.1.2.2.2 t g.2.1.2.2.1))), some (zi (nI (t + 1))), none, none, none, none, none, none, none, none, none] w := by
  have hV := hG.2.1.2.2.2
  have hn := hV.1
  have hdn : ∀ k, dn g.2.1.2.2.2 t k ≤ k := fun k => by
    induction k with
    | zero => exact Nat.le_refl _
    | succ k ih => rw [dn]; split <;> omega
  intro m
  induction m with
  | zero =>
    intro k hk
    have e : k = g.2.1.2.2.1 := by omega
    have h1 := hdn k
    rw [e_L_run_37]
    simp (disch := omega) only [jl, jle, nI_add]
    rw [if_pos (by omega), e]
    by_cases h : dn g.2.1.2.2.2 t g.2.1.2.2.1 ≤ M
    · rw [if_pos h, if_pos h]
    · rw [if_neg h, if_neg h]
  | succ m ih =>
    intro k hk
    have hkn : k < g.2.1.2.2.1 := by omega
    have eR := KA_R hK hS hn hkn
    have hR := hV.2.1 k hkn
    rw [← ih (k + 1) (by omega), e_L_run_37]
    simp (disch := omega) only [jl, jle, nI_add, jchk, jcl, eR, jeq]
    rw [if_neg (by omega), dn]
    by_cases h : g.2.1.2.2.2 k = t
    · rw [if_pos h, if_pos h]
    · rw [if_neg h, if_neg h]
theorem run_25 (hG : GI g) (hK : KA g a) {w : Wd} (hS : St w g a) {x3 x4 x5 x6 : Int32} : ∀ (m t M : Nat), m + t = 4 → M ≤ mxA (ch g.2.1.2.1 g.2.1.2.2.2) g.2.1.2.2.1 →
    ∃ M', M' ≤ mxA (ch g.2.1.2.1 g.2.1.2.2.2) g.2.1.2.2.1 ∧ x_L_run 25 [] [some (zr 7 0), some (zr 30 0), some (zi (nI g.2.1.2.2.1)), some (zi x3), some (zi x4), some (zi x5), some (zi x6), some (zi (nI M)), some (zi (nI t)), none, none, none, none, none, none, none, none, none] w =
    x_L_run 96 [] [some (zr 7 0), some (zr 30 0), some (zi (nI g.2.1.2.2.1)), some (zi x3), some (zi x4), some (zi x5), some (zi x6), some (zi (nI M')), some (zi (nI 0)), none, none, none, none, none, none, none, none, none] w := by
  have hV := hG.2.1.2.2.2
  have hn := hV.1
  have hC := chain_le (P := g.2.1.2.1) (R := g.2.1.2.2.2) (n := g.2.1.2.2.1)
  intro m
  induction m with
  | zero =>
    intro t M ht hM
    have : t = 4 := by omega
    subst this
    refine ⟨M, hM, ?_⟩
    rw [e_L_run_25, if_pos (by decide)]
    rfl
  | succ m ih =>
    intro t M ht hM
    have hge := chain_ge (P := g.2.1.2.1) (R := g.2.1.2.2.2) (n := g.2.1.2.2.1) (t := t)
    obtain ⟨M', h1, h2⟩ := ih (t + 1) (if dn g.2.1.2.2.2 t g.2.1.2.2.1 ≤ M then M else dn g.2.1.2.2.2 t g.2.1.2.2.1) (by omega) (by split <;> assumption)
    refine ⟨M', h1, ?_⟩
    rw [← h2, e_L_run_25, if_neg (by rw [jl, jle (by decide) (by omega)]; omega)]
    exact run_37 hG hK hS (by omega) (by omega) g.2.1.2.2.1 0 rfl
/-! the last writes -/
theorem lwT_nat {P : Nat → Nat → Nat} {R : Nat → Nat} (v k : Nat) (hk : k ≤ 24) (hR : ∀ i, i < k → R i < 4) : lwT R (lw P R v k) < 0 ∨ 0 ≤ lwT R (lw P R v k) := by
  rcases Int32.lt_or_le (lwT R (lw P R v k)) 0 with h | h
  · exact Or.inl h
  · exact Or.inr h
theorem run_356 (hG : GI g) (hA : PA g a) (hK : KA g a) {w : Wd} (hS : St w g a) {x3 x4 x10 : Int32} {y8 : Int64} {v k : Nat} (hv : v < 4) (hk : k < g.2.1.2.2.1) : ∀ (m j : Nat), m + j = k →
    x_L_run 356 [] [some (zr 7 0), some (zr 30 0), some (zi (nI g.2.1.2.2.1)), some (zi x3), some (zi x4), none, none, none, some (zl y8), none, some (zi x10), some (zi (nI v)), some (zi (lwT g.2.1.2.2.2 (lw g.2.1.2.1 g.2.1.2.2.2 v k))), some (zi (lwS g.2.1.2.2.2 (lw g.2.1.2.1 g.2.1.2.2.2 v k))), some (zi (nI k)), some (zi (nI (g.2.1.2.2.2 k))), some (zi (nI (dn g.2.1.2.2.2 (g.2.1.2.2.2 k) j))), some (zi (nI j))] w =
    x_L_run 335 [] [some (zr 7 0), some (zr 30 0), some (zi (nI g.2.1.2.2.1)), some (zi x3), some (zi x4), none, none, none, some (zl y8), none, some (zi x10), some (zi (nI v)), some (zi (lwT g.2.1.2.2.2 (lw g.2.1.2.1 g.2.1.2.2.2 v (k + 1)))), some (zi (lwS g.2.1.2.2.2 (lw g.2.1.2.1 g.2.1.2.2.2 v (k + 1)))), some (zi (nI (k + 1))), none, none, none] w := by
  have hV := hG.2.1.2.2.2
  have hn := hV.1
  have hRk := hV.2.1 k hk
  have hwh := VR_wh hV hk
  have h4 := (hA.1 _ hRk).2
  intro m
  induction m with
  | zero =>
    intro j hj
    have e : j = k := by omega
    subst e
    have hwd : dn g.2.1.2.2.2 (g.2.1.2.2.2 j) j = wh g.2.1.2.2.2 j := rfl
    have eP := PA_P hA hS hRk hwh
    have hc := VR_cd hG.2.1.1 hV hk
    have hcd : g.2.1.2.1 (g.2.1.2.2.2 j) (wh g.2.1.2.2.2 j) = cd g.2.1.2.1 g.2.1.2.2.2 j := rfl
    rw [hcd] at eP
    rw [e_L_run_356, hwd]
    simp (disch := omega) only [jl, jle, jmul, nI_add, jchk, jcl, eP, jeq]
    rw [if_pos (Nat.le_refl _), lw]
    by_cases h : cd g.2.1.2.1 g.2.1.2.2.2 j = 4 + v
    · rw [if_pos h, if_pos h]
      rfl
    · rw [if_neg h, if_neg h]
  | succ m ih =>
    intro j hj
    have hjn : j < g.2.1.2.2.1 := by omega
    have eR := KA_R hK hS hn hjn
    have hR := hV.2.1 j hjn
    rw [← ih (j + 1) (by omega), e_L_run_356]
    simp (disch := omega) only [jl, jle, nI_add, jchk, jcl, eR, jeq]
    rw [if_neg (by omega), dn]
    by_cases h : g.2.1.2.2.2 j = g.2.1.2.2.2 k
    · rw [if_pos h, if_pos h]
    · rw [if_neg h, if_neg h]
theorem run_335 (hG : GI g) (hA : PA g a) (hK : KA g a) {w : Wd} (hS : St w g a) {x3 x4 x10 : Int32} {y8 : Int64} {v : Nat} (hv : v < 4) : ∀ (m k : Nat), m + k = g.2.1.2.2.1 →
    ∃ b, b ≤ 1 ∧ x_L_run 335 [] [some (zr 7 0), some (zr 30 0), some (zi (nI g.2.1.2.2.1)), some (zi x3), some (zi x4), none, none, none, some (zl y8), none, some (zi x10), some (zi (nI v)), some (zi (lwT g.2.1.2.2.2 (lw g.2.1.2.1 g.2.1.2.2.2 v k))), some (zi (lwS g.2.1.2.2.2 (lw g.2.1.2.1 g.2.1.2.2.2 v k))), some (zi (nI k)), none, none, none] w =
    x_L_run 435 [zi (nI b), zi x3] [some (zr 7 0), some (zr 30 0), some (zi (nI g.2.1.2.2.1)), none, some (zi x4), none, none, none, some (zl y8), none, some (zi x10), some (zi (nI v)), some (zi (lwT g.2.1.2.2.2 (lw g.2.1.2.1 g.2.1.2.2.2 v g.2.1.2.2.1))), some (zi (lwS g.2.1.2.2.2 (lw g.2.1.2.1 g.2.1.2.2.2 v g.2.1.2.2.1))), none, none, none, none] w := by
  have hV := hG.2.1.2.2.2
  have hn := hV.1
  intro m
  induction m with
  | zero =>
    intro k hk
    have e : k = g.2.1.2.2.1 := by omega
    subst e
    by_cases h : lwT g.2.1.2.2.2 (lw g.2.1.2.1 g.2.1.2.2.2 v g.2.1.2.2.1) < 0
    · refine ⟨0, by decide, ?_⟩
      rw [e_L_run_335, if_pos (by rw [jle (by omega) (by omega)]; exact Nat.le_refl _), if_pos h]
      rfl
    · refine ⟨1, by decide, ?_⟩
      rw [e_L_run_335, if_pos (by rw [jle (by omega) (by omega)]; exact Nat.le_refl _), if_neg h]
      rfl
  | succ m ih =>
    intro k hk
    have hkn : k < g.2.1.2.2.1 := by omega
    obtain ⟨b, h1, h2⟩ := ih (k + 1) (by omega)
    refine ⟨b, h1, ?_⟩
    have eR := KA_R hK hS hn hkn
    have hR := hV.2.1 k hkn
    rw [← h2, e_L_run_335]
    simp (disch := omega) only [jl, jle, nI_add, jchk, jcl, eR]
    rw [if_neg (by omega)]
    exact run_356 hG hA hK hS hv hkn k 0 rfl
/-! the second round over the least run -/
theorem run_501 {g2 g0 : Gst} (hG : GI g2) (hG0 : GI g0) (hr : g2.2.2 = (recG g0).2.2) (hL : g2.2.1.1 = g0.2.1.1) (hP : g2.2.1.2.1 = g0.2.1.2.1) (hn : g2.2.1.2.2.1 = g0.2.1.2.2.1) (hB : LE g0.2.1.2.1 g0.2.1.2.2.2 g0.2.1.2.2.1 g2.2.1.2.2.2) {x3 : Nat} (hx3 : x3 < 100) : ∀ (m k : Nat) (w : Wd) (S : Nat → Nat) (x4 : Nat), m + k = g0.2.1.2.2.1 → x4 < 100 → dgP (LR g0.2.1.2.1 g0.2.1.2.2.2 g0.2.1.2.2.1) k S → St w ((k, S), g2.2) a →
    Wn (x_L_run 501 [] [some (zr 7 0), none, some (zi (nI g0.2.1.2.2.1)), some (zi (nI x3)), some (zi (nI x4)), none, none, none, some (zl (lN (wy g0.2.1.2.1 g0.2.1.2.2.2 g0.2.1.2.2.1))), none, none, some (zi (nI k)), none, none, none, none, none, none] w) fun w' => ∃ g', St w' g' a ∧ GI g' ∧ g'.2.1 = g0.2.1 := by
  obtain ⟨hW, hE, hN, hV⟩ := hG0.2.1
  have hn24 := hV.1
  have eLR : ∀ i, LR g2.2.1.2.1 g2.2.1.2.2.2 g2.2.1.2.2.1 i = LR g0.2.1.2.1 g0.2.1.2.2.2 g0.2.1.2.2.1 i := fun i => by
    rw [hP, hn]
    exact Pm_LR (LE_Pm hV.2.1 hB) i
  intro m
  induction m with
  | zero =>
    intro k w S x4 hk hx4 hd hS
    have e : k = g0.2.1.2.2.1 := by omega
    subst e
    have hG1 : GI ((g0.2.1.2.2.1, S), g2.2) := ⟨dgP_SK hd (show g0.2.1.2.2.1 ≤ 40 by omega), hG.2⟩
    have hO : okR g0.2.1.2.2.1 S := dgP_ok hd hn24
    have hv : vb g2.2.1.1 g2.2.1.2.1 (padR S) g0.2.1.2.2.1 = true := by
      rw [vb_cg _ fun j hj => dgP_R hd hj, hL, hP]
      exact (LR_VR hV).2.2
    have hpad : LE g0.2.1.2.1 g0.2.1.2.2.2 g0.2.1.2.2.1 (padR S) := LE_cg (LR_LE (P := g0.2.1.2.1) hV.2.1) fun j hj => dgP_R hd hj
    have hz : g2.2.2.1.2.1 ≠ 0 := by rw [hr]; exact rec_nz _
    rw [e_L_run_501]
    refine Wn.pos (by rw [jle (by omega) (by omega)]; exact Nat.le_refl _) ?_
    refine Wn.neg (by rw [jlt0 (by omega)]; exact id) ?_
    refine Wn.neg (by rw [jlt0 (by omega)]; exact id) ?_
    refine Wn.call (k_alike hG1 hO hv) hS fun w1 s1 => ?_
    refine Wn.pos ?_ ?_
    · show nI (if (decide (g2.2.1.2.2.1 = g0.2.1.2.2.1) && eqU (LR g2.2.1.2.1 g2.2.1.2.2.2 g2.2.1.2.2.1) (LR g2.2.1.2.1 (padR S) g0.2.1.2.2.1) g2.2.1.2.2.1) = true then 1 else 0) = nI 1
      rw [eqU_yes _ fun i hi => by rw [eLR i, hP]; exact (Pm_LR (LE_Pm hV.2.1 hpad) i).symm, hn]
      simp
    refine Wn.call k_wipe s1 fun w2 s2 => ?_
    refine Wn.pos rfl ?_
    have hG2 := wipG_GI hG1
    have h6 := hG.2.2.1.1
    refine Wn.call (k_undo hG2 hz) s2 fun w3 s3 => ?_
    refine Wn.neg (by show ¬ nI _ < 0; rw [jlt0 (by show g2.2.2.1.2.1 - 1 < 2147483648; omega)]; exact id) ?_
    have hG3 := undG_GI hG2 hz
    have eu : (undG (wipG ((g0.2.1.2.2.1, S), g2.2))).2.1 = g0.2.1 := by
      show g2.2.2.1.1 (g2.2.2.1.2.1 - 1) = g0.2.1
      rw [hr]
      exact hrec_at _ _ _ hG0.2.2.1.1
    refine Wn.call (k_alikeRuns hG3) s3 fun w4 s4 => ?_
    have hlt := wy_lt hW hV
    refine Wn.pos ?_ (Wn.one ⟨_, s4, hG3, eu⟩)
    rw [eu]
    show lg_cmp (lN _) (lN _) = 0
    rw [lcmpEQ hlt hlt]
  | succ m ih =>
    intro k w S x4 hk hx4 hd hS
    have hkn : k < g0.2.1.2.2.1 := by omega
    have hG1 : GI ((k, S), g2.2) := ⟨dgP_SK hd (show k ≤ 40 by omega), hG.2⟩
    have ht := LR_lt hV hkn
    obtain ⟨q1, q2⟩ := put1 _ ht
    have e1 : nI k + Int32.ofInt 1 = nI (k + 1) := nI_add k 1
    rw [e_L_run_501]
    refine Wn.neg (by rw [jle (by omega) (by omega)]; omega) ?_
    refine Wn.call (k_least hG1 (p := k) (by omega)) hS fun w1 s1 => ?_
    have ev : (if k < g2.2.1.2.2.1 then nI (LR g2.2.1.2.1 g2.2.1.2.2.2 g2.2.1.2.2.1 k) else Int32.ofInt (-6)) = nI (LR g0.2.1.2.1 g0.2.1.2.2.2 g0.2.1.2.2.1 k) := by
      rw [if_pos (by omega), eLR]
    show Wn (oC (f_X7_put 0 ((Int32.ofInt 48) + (if k < g2.2.1.2.2.1 then nI (LR g2.2.1.2.1 g2.2.1.2.2.2 g2.2.1.2.2.1 k) else Int32.ofInt (-6))).toInt64 w1) _) _
    rw [ev]
    refine Wn.call (k_put (g := ((k, S), g2.2)) (y := y1 (LR g0.2.1.2.1 g0.2.1.2.2.2 g0.2.1.2.2.1 k)) q1 (by decide) (show k + 1 ≤ 40 by omega)) s1 fun w2 s2 => ?_
    rw [e1]
    exact ih (k + 1) w2 _ (k + 1) (by omega) (by omega) (dgP_put hd ht rfl) s2
end RU
