/-! THE LAW counts steps and pairs. -/
section SP
variable {g : Gst} {a : Nat → Nat}
theorem PA_L (hA : PA g a) {w : Wd} (hS : St w g a) {t : Nat} (ht : t < 4) : w.1 30 0 t = nI (g.2.1.1 t) := by
  rw [hS.2 t (by omega), (hA.1 t ht).1]
theorem PA_P (hA : PA g a) {w : Wd} (hS : St w g a) {t s : Nat} (ht : t < 4) (hs : s < g.2.1.1 t) : w.1 30 0 (4 + 6 * t + s) = nI (g.2.1.2.1 t s) := by
  have := (hA.1 t ht).2
  rw [hS.2 _ (by omega), hA.2 t s ht hs]
theorem steps_61 (hG : GI g) (hA : PA g a) {w : Wd} (hS : St w g a) {x2 x3 : Int32} {t k c u : Nat} (ht : t < 4) (hk : k < 60) (hc : c < 16) (hu : u < 4) (hne : u ≠ t) : ∀ (m i : Nat), m + i = g.2.1.1 u →
    x_L_steps 61 [] [some (zr 7 0), some (zr 30 0), some (zi x2), some (zi x3), some (zi (nI t)), some (zi (nI k)), some (zi (nI c)), some (zi (nI (cfO g.2.1.1 g.2.1.2.1 t c u + cfI g.2.1.2.1 c u i))), some (zi (nI u)), some (zi (nI i))] w =
    x_L_steps 52 [] [some (zr 7 0), some (zr 30 0), some (zi x2), some (zi x3), some (zi (nI t)), some (zi (nI k)), some (zi (nI c)), some (zi (nI (cfO g.2.1.1 g.2.1.2.1 t c (u + 1)))), some (zi (nI (u + 1))), none] w := by
  have eL := PA_L hA hS hu
  have h4 := (hA.1 u hu).2
  intro m
  induction m with
  | zero =>
    intro i hi
    rw [e_L_steps_61]
    simp (disch := omega) only [jl, jchk, jcl, eL, jle, nI_add]
    rw [if_pos (by omega), cfO, if_neg hne, show i = g.2.1.1 u by omega]
  | succ m ih =>
    intro i hi
    have eP := PA_P hA hS hu (show i < g.2.1.1 u by omega)
    have hp := P_lt hG.2.1.1 hu (show i < g.2.1.1 u by omega)
    rw [← ih (i + 1) (by omega), e_L_steps_61]
    simp (disch := omega) only [jl, jchk, jcl, eL, jle, nI_add, jmul, eP, jeq]
    rw [if_neg (by omega), if_neg hne, m_commute c hc _ hp, joc, cfI]
    simp only [j01]
    cases cm c (g.2.1.2.1 u i) <;> rfl
theorem steps_52 (hG : GI g) (hA : PA g a) {w : Wd} (hS : St w g a) {x2 x3 : Int32} {t k c : Nat} (ht : t < 4) (hk : k < 60) (hc : c < 16) : ∀ (m u : Nat), m + u = 4 →
    x_L_steps 52 [] [some (zr 7 0), some (zr 30 0), some (zi x2), some (zi x3), some (zi (nI t)), some (zi (nI k)), some (zi (nI c)), some (zi (nI (cfO g.2.1.1 g.2.1.2.1 t c u))), some (zi (nI u)), none] w =
    x_L_steps 52 [] [some (zr 7 0), some (zr 30 0), some (zi x2), some (zi x3), some (zi (nI t)), some (zi (nI k)), some (zi (nI c)), some (zi (nI (cfO g.2.1.1 g.2.1.2.1 t c 4))), some (zi (nI 4)), none] w := by
  intro m
  induction m with
  | zero =>
    intro u hu
    rw [show u = 4 by omega]
  | succ m ih =>
    intro u hu
    have hu4 : u < 4 := by omega
    have eL := PA_L hA hS hu4
    rw [← ih (u + 1) (by omega), e_L_steps_52]
    simp (disch := omega) only [jl, jle]
    rw [if_neg (by omega)]
    by_cases e : u = t
    · rw [e_L_steps_61]
      simp (disch := omega) only [jl, jchk, jcl, eL, jle, nI_add, jeq]
      rw [if_pos e, cfO, if_pos e, Nat.add_zero]
      split <;> rfl
    · have := steps_61 hG hA hS (x2 := x2) (x3 := x3) ht hk hc hu4 e (g.2.1.1 u) 0 rfl
      rw [show cfI g.2.1.2.1 c u 0 = 0 from rfl, Nat.add_zero] at this
      exact this
theorem steps_23 (hG : GI g) (hA : PA g a) {t : Nat} (ht : t < 4) {x2 : Int32} {Q : Wd → Prop} (hQ : ∀ w, St w g a → Wn (x_L_steps 7 [] [some (zr 7 0), some (zr 30 0), some (zi x2), some (zi (nI (prO g.2.1.1 g.2.1.2.1 (t + 1)))), some (zi (nI (t + 1))), none, none, none, none, none] w) Q) : ∀ (m k : Nat) (w : Wd), m + k = g.2.1.1 t → St w g a →
    Wn (x_L_steps 23 [] [some (zr 7 0), some (zr 30 0), some (zi x2), some (zi (nI (prO g.2.1.1 g.2.1.2.1 t + prI g.2.1.1 g.2.1.2.1 t k))), some (zi (nI t)), some (zi (nI k)), none, none, none, none] w) Q := by
  have hW := hG.2.1.1
  have h4 := (hA.1 t ht).2
  intro m
  induction m with
  | zero =>
    intro k w hk hS
    have eL := PA_L hA hS ht
    rw [e_L_steps_23]
    simp (disch := omega) only [jl, jchk, jcl, eL, jle, nI_add]
    refine Wn.pos (by omega) ?_
    refine Wn.call (k_of_no hG ht (Nat.le_refl _) (by omega) _) hS fun w1 s1 => ?_
    refine Wn.pos rfl ?_
    have h := hQ w1 s1
    rw [prO, show g.2.1.1 t = k by omega] at h
    exact h
  | succ m ih =>
    intro k w hk hS
    have hkl : k < g.2.1.1 t := by omega
    have eL := PA_L hA hS ht
    have eP := PA_P hA hS ht hkl
    have hp := P_lt hW ht hkl
    have hcf := cfO_le (L := g.2.1.1) (P := g.2.1.2.1) hW t (g.2.1.2.1 t k) 4 (Nat.le_refl _)
    rw [e_L_steps_23]
    simp (disch := omega) only [jl, jchk, jcl, eL, jle, nI_add, jmul, eP]
    refine Wn.neg (by omega) ?_
    refine Wn.rw (steps_52 hG hA hS ht (by omega) hp 4 0 rfl) ?_
    rw [e_L_steps_52]
    refine Wn.pos (by decide) ?_
    refine Wn.call (k_of hG ht hkl (q := 0) (by decide)) hS fun w1 s1 => ?_
    refine Wn.pos (show nI (g.2.1.2.1 t k / 4) = nI (g.2.1.2.1 t k) >>> (nI 2 &&& 31) by rw [jshr (by decide) (by omega)]) ?_
    refine Wn.call (k_of hG ht hkl (q := 1) (by decide)) s1 fun w2 s2 => ?_
    refine Wn.pos (show nI (g.2.1.2.1 t k % 4) = nI (g.2.1.2.1 t k) &&& nI 3 by rw [jmod4]) ?_
    refine Wn.call (k_of hG ht hkl (q := 2) (by decide)) s2 fun w3 s3 => ?_
    refine Wn.pos rfl ?_
    have e1 : nI k + Int32.ofInt 1 = nI (k + 1) := nI_add k 1
    rw [e1, nI_add]
    have h := ih (k + 1) w3 (by omega) s3
    rw [prI, ← Nat.add_assoc] at h
    exact h
theorem steps_7 (hG : GI g) (hA : PA g a) : ∀ (m t : Nat) (w : Wd) (s : Nat), m + t = 4 → St w g a → (s = if t = 0 then 0 else if t = 1 then g.2.1.1 0 else if t = 2 then g.2.1.1 0 + g.2.1.1 1 else if t = 3 then g.2.1.1 0 + g.2.1.1 1 + g.2.1.1 2 else g.2.1.1 0 + g.2.1.1 1 + g.2.1.1 2 + g.2.1.1 3) →
    Wn (x_L_steps 7 [] [some (zr 7 0), some (zr 30 0), some (zi (nI s)), some (zi (nI (prO g.2.1.1 g.2.1.2.1 t))), some (zi (nI t)), none, none, none, none, none] w) fun w' => St w' g a := by
  have hW := hG.2.1.1
  have hpr := prO_le (L := g.2.1.1) (P := g.2.1.2.1) hW
  intro m
  induction m with
  | zero =>
    intro t w s ht hS hs
    have : t = 4 := by omega
    subst this
    have h4 := hpr 4 (Nat.le_refl _)
    rw [e_L_steps_7]
    refine Wn.pos (by decide) ?_
    refine Wn.call (k_count4 hG) hS fun w1 s1 => ?_
    refine Wn.pos (by rw [hs]; rfl) ?_
    refine Wn.call (k_count8 hG) s1 fun w2 s2 => ?_
    refine Wn.neg (by decide) ?_
    refine Wn.pos (by show nI _ = nI _ / nI 2; rw [jdiv (by omega) (by decide) (by decide)]) ?_
    exact Wn.one s2
  | succ m ih =>
    intro t w s ht hS hs
    have ht4 : t < 4 := by omega
    have eL := PA_L hA hS ht4
    rw [e_L_steps_7]
    simp (disch := omega) only [jl, jchk, jcl, eL, jle, nI_add]
    refine Wn.neg (by omega) ?_
    have hnext : ∀ w', St w' g a → Wn (x_L_steps 7 [] [some (zr 7 0), some (zr 30 0), some (zi (nI (s + g.2.1.1 t))), some (zi (nI (prO g.2.1.1 g.2.1.2.1 (t + 1)))), some (zi (nI (t + 1))), none, none, none, none, none] w') fun w' => St w' g a := fun w' s' => ih (t + 1) w' (s + g.2.1.1 t) (by omega) s' (by
      rw [hs]
      rcases four ht4 with rfl | rfl | rfl | rfl <;> simp)
    have h := steps_23 hG hA ht4 hnext (g.2.1.1 t) 0 w rfl hS
    rw [show prI g.2.1.1 g.2.1.2.1 t 0 = 0 from rfl, Nat.add_zero] at h
    exact h
theorem m_steps (hG : GI g) (hA : PA g a) {w : Wd} (hS : St w g a) : Wn (f_L_steps 0 0 w) fun w' => St w' g a := by
  rw [e_L_steps]
  exact steps_7 hG hA 4 0 w 0 rfl hS rfl
end SP
