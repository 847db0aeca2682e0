/-! THE LAW keeps a run by a number. -/
section KE
variable {g : Gst} {a : Nat → Nat}
theorem or4_16 {P : Nat → Nat → Nat} (d : Nat → Nat) (t : Nat) : (or4 fun u => if u = t then 0 else hx P u (d u)) < 16 := or4_lt fun u => by
  split
  · decide
  · exact hx_lt P u (d u)
theorem keeps_87 (hG : GI g) (hA : PA g a) {w : Wd} (hS : St w g a) {t : Nat} (ht : t < 4) {d : Nat → Nat} (hd : ∀ u, u < 4 → d u ≤ g.2.1.1 u) {x3 x4 x5 x10 dn : Int32} :
    x_L_keeps 87 [zi dn] [some (zr 7 0), some (zr 30 0), none, some (zi x3), some (zi x4), some (zi x5), some (zi (nI (d 0))), some (zi (nI (d 1))), some (zi (nI (d 2))), some (zi (nI (d 3))), some (zi x10), some (zi (nI t)), none, none, none] w =
    x_L_keeps 158 [zi (nI (if 3 = t then 0 else hx g.2.1.2.1 3 (d 3))), zi (nI (((if 0 = t then 0 else hx g.2.1.2.1 0 (d 0)) ||| (if 1 = t then 0 else hx g.2.1.2.1 1 (d 1))) ||| (if 2 = t then 0 else hx g.2.1.2.1 2 (d 2))))] [some (zr 7 0), some (zr 30 0), none, some (zi x3), some (zi x4), some (zi x5), some (zi (nI (d 0))), some (zi (nI (d 1))), some (zi (nI (d 2))), some (zi (nI (d 3))), some (zi x10), some (zi (nI t)), some (zi dn), none, none] w := by
  have hh : ∀ u, u < 4 → f_L_held 0 (nI u) (nI (d u)) w = some (nI (hx g.2.1.2.1 u (d u)), w) := fun u hu => by
    have h4 := (hA.1 u hu).2
    have h5 := hd u hu
    exact m_held hS.2 hu (by omega) fun s hs => ⟨hA.2 u s hu (by omega), P_lt hG.2.1.1 hu (by omega)⟩
  have h0 := hh 0 (by decide)
  have h1 := hh 1 (by decide)
  have h2 := hh 2 (by decide)
  have h3 := hh 3 (by decide)
  rw [e_L_keeps_87]
  rcases four ht with rfl | rfl | rfl | rfl
  · simp (disch := omega) only [jl, jeq0, jeq, Nat.reduceEqDiff, ↓reduceIte, h1, joc, e_L_keeps_122, h2, h3, jor]
  · simp (disch := omega) only [jl, jeq0, jeq, Nat.reduceEqDiff, ↓reduceIte, h0, joc, e_L_keeps_122, h2, h3, jor]
  · simp (disch := omega) only [jl, jeq0, jeq, Nat.reduceEqDiff, ↓reduceIte, h0, h1, joc, e_L_keeps_122, h3, jor]
  · simp (disch := omega) only [jl, jeq0, jeq, Nat.reduceEqDiff, ↓reduceIte, h0, h1, joc, e_L_keeps_122, h2, jor]
theorem keeps_158 (hG : GI g) (hA : PA g a) {w : Wd} (hS : St w g a) {t : Nat} (ht : t < 4) {d : Nat → Nat} (hd : ∀ u, u < 4 → d u ≤ g.2.1.1 u) {n k : Nat} (hn : n ≤ 16) {x3 x5 : Int32} :
    x_L_keeps 158 [zi (nI (if 3 = t then 0 else hx g.2.1.2.1 3 (d 3))), zi (nI (((if 0 = t then 0 else hx g.2.1.2.1 0 (d 0)) ||| (if 1 = t then 0 else hx g.2.1.2.1 1 (d 1))) ||| (if 2 = t then 0 else hx g.2.1.2.1 2 (d 2))))] [some (zr 7 0), some (zr 30 0), none, some (zi x3), some (zi (nI n)), some (zi x5), some (zi (nI (d 0))), some (zi (nI (d 1))), some (zi (nI (d 2))), some (zi (nI (d 3))), some (zi (nI k)), some (zi (nI t)), some (zi (nI (d t))), none, none] w =
    if goS g.2.1.1 g.2.1.2.1 d t = true then x_L_keeps 239 [zi (nI (if t = 0 then 1 else 0)), zi (nI (d 0))] [some (zr 7 0), some (zr 30 0), none, none, some (zi (nI (n + 1))), some (zi x5), none, some (zi (nI (d 1))), some (zi (nI (d 2))), some (zi (nI (d 3))), some (zi (nI k)), some (zi (nI t)), none, none, none] (wI w 30 0 (28 + n) (nI t))
    else x_L_keeps 26 [] [some (zr 7 0), some (zr 30 0), none, some (zi x3), some (zi (nI n)), some (zi x5), some (zi (nI (d 0))), some (zi (nI (d 1))), some (zi (nI (d 2))), some (zi (nI (d 3))), some (zi (nI (k + 1))), none, none, none, none] w := by
  have h4 := (hA.1 t ht).2
  have hdt := hd t ht
  have eL := PA_L hA hS ht
  have ho16 := or4_16 (P := g.2.1.2.1) d t
  have eo : (((if 0 = t then 0 else hx g.2.1.2.1 0 (d 0)) ||| (if 1 = t then 0 else hx g.2.1.2.1 1 (d 1))) ||| (if 2 = t then 0 else hx g.2.1.2.1 2 (d 2))) ||| (if 3 = t then 0 else hx g.2.1.2.1 3 (d 3)) = or4 fun u => if u = t then 0 else hx g.2.1.2.1 u (d u) := rfl
  rw [e_L_keeps_158]
  simp (disch := omega) only [jl, jle, jmul, nI_add, jor]
  rw [eo, if_neg (by omega), e_L_keeps_182]
  simp (disch := omega) only [jl, nI_add, jchk, jcl, eL, jle]
  by_cases hlt : d t < g.2.1.1 t
  · have eP := PA_P hA hS ht hlt
    have hp := P_lt hG.2.1.1 ht hlt
    have hm4 : g.2.1.2.1 t (d t) % 4 < 4 := Nat.mod_lt _ (by decide)
    rw [if_neg (by omega), eP]
    have hdv : (or4 fun u => if u = t then 0 else hx g.2.1.2.1 u (d u)) / 2 ^ (g.2.1.2.1 t (d t) % 4) % 2 < 2 := Nat.mod_lt _ (by decide)
    simp (disch := omega) only [jshr, jmod4]
    simp (disch := omega) only [jand, Nat.and_one_is_mod, jeq0, jeq]
    have eg : (goS g.2.1.1 g.2.1.2.1 d t = true) ↔ (¬ g.2.1.2.1 t (d t) / 4 = 2 ∨ (or4 fun u => if u = t then 0 else hx g.2.1.2.1 u (d u)) / 2 ^ (g.2.1.2.1 t (d t) % 4) % 2 = 0) := by
      unfold goS
      rw [Bool.and_eq_true, Bool.or_eq_true, Bool.not_eq_true', Bool.not_eq_true', decide_eq_true_eq, decide_eq_false_iff_not, Nat.testBit_eq_decide_div_mod_eq, decide_eq_false_iff_not]
      constructor
      · rintro ⟨-, h | h⟩
        · exact Or.inl h
        · exact Or.inr (by omega)
      · rintro (h | h)
        · exact ⟨hlt, Or.inl h⟩
        · exact ⟨hlt, Or.inr (by omega)⟩
    rw [show (2 : Nat) ^ 2 = 4 from rfl]
    by_cases h2 : g.2.1.2.1 t (d t) / 4 = 2
    · rw [if_pos h2]
      by_cases h0 : (or4 fun u => if u = t then 0 else hx g.2.1.2.1 u (d u)) / 2 ^ (g.2.1.2.1 t (d t) % 4) % 2 = 0
      · rw [if_pos h0, if_pos (eg.mpr (Or.inr h0))]
        by_cases e : t = 0
        · simp only [if_pos e]
        · simp only [if_neg e]
      · rw [if_neg h0, if_neg (fun h => (eg.mp h).elim (fun z => z h2) h0)]
    · rw [if_neg h2, if_pos (eg.mpr (Or.inl h2))]
      by_cases e : t = 0
      · simp only [if_pos e]
      · simp only [if_neg e]
  · rw [if_pos (by omega), if_neg]
    intro h
    exact hlt (goS_lt h)
def KA (g : Gst) (a : Nat → Nat) : Prop := a 56 = g.2.1.2.2.1 ∧ ∀ i, i < g.2.1.2.2.1 → a (28 + i) = g.2.1.2.2.2 i
def KpP (g : Gst) (w' : Wd) : Prop := ∃ g' a', St w' g' a' ∧ GI g' ∧ PA g' a' ∧ KA g' a' ∧ g'.2.1.1 = g.2.1.1 ∧ g'.2.1.2.1 = g.2.1.2.1
theorem keeps_end (hG : GI g) (hA : PA g a) (h0 : g.2.1.2.2.1 = 0) {n : Nat} (hn : n ≤ 16) {R S : Nat → Nat} (hd : dgP R n S) (hv : vb g.2.1.1 g.2.1.2.1 R n = true) (hR : ∀ i, i < n → a (28 + i) = R i) {w : Wd} (hS : St w ((n, S), g.2) a) {x3 : Nat} (hx3 : x3 < 100) {x5 x6 x7 x8 x9 : Int32} :
    Wn (x_L_keeps 26 [] [some (zr 7 0), some (zr 30 0), none, some (zi (nI x3)), some (zi (nI n)), some (zi x5), some (zi x6), some (zi x7), some (zi x8), some (zi x9), some (zi (nI 26)), none, none, none, none] w) (KpP g) := by
  have hG1 : GI ((n, S), g.2) := ⟨dgP_SK hd (show n ≤ 40 by omega), hG.2⟩
  have hO : okR n S := dgP_ok hd (by omega)
  have hv' : vb g.2.1.1 g.2.1.2.1 (padR S) n = true := by
    rw [vb_cg n fun j hj => dgP_R hd hj]
    exact hv
  have hG2 := kepG_GI (g := ((n, S), g.2)) hG1 hO hv'
  have fin : ∀ w1, St w1 ((n, S), g.2) (up1 a 56 n) → Wn (x_L_keeps 346 [zi (nI (if n = 0 then 1 else 0)), zi (nI (if (decide (g.2.1.2.2.1 = n) && eqU (LR g.2.1.2.1 g.2.1.2.2.2 g.2.1.2.2.1) (LR g.2.1.2.1 (padR S) n) g.2.1.2.2.1) = true then 1 else 0))] [some (zr 7 0), none, none, some (zi (nI x3)), some (zi (nI n)), none, none, none, none, none, none, none, none, none, none] w1) (KpP g) := fun w1 s1 => by
    rw [e_L_keeps_346]
    refine Wn.pos ?_ ?_
    · rw [h0]
      by_cases e : n = 0
      · rw [e]; rfl
      · rw [if_neg e, if_neg]
        simp [Ne.symm e]
    refine Wn.call (k_keep hG1 hO hv') s1 fun w2 s2 => ?_
    refine Wn.pos rfl ?_
    refine Wn.neg (by rw [jlt0 (by omega)]; exact id) ?_
    refine Wn.one ⟨kepG ((n, S), g.2), up1 a 56 n, s2, hG2, ⟨fun t ht => ?_, fun t s ht hs => ?_⟩, ⟨if_pos rfl, fun i hi => ?_⟩, rfl, rfl⟩
    · show up1 a 56 n t = g.2.1.1 t ∧ g.2.1.1 t ≤ 4
      unfold up1
      rw [if_neg (by omega)]
      exact hA.1 t ht
    · have hs : s < g.2.1.1 t := hs
      have h4 := (hA.1 t ht).2
      show up1 a 56 n (4 + 6 * t + s) = g.2.1.2.1 t s
      unfold up1
      rw [if_neg (by omega)]
      exact hA.2 t s ht hs
    · have hi : i < n := hi
      show up1 a 56 n (28 + i) = padR S i
      unfold up1
      rw [if_neg (by omega), hR i hi, dgP_R hd hi]
  rw [e_L_keeps_26]
  refine Wn.pos (by decide) ?_
  refine Wn.chk (x := 56) (by decide) (by decide) ?_
  refine Wn.call (k_fault1 hG1 hO) (St_wI hS 56 n) fun w1 s1 => ?_
  refine Wn.pos rfl ?_
  refine Wn.call (k_alike hG1 hO hv') s1 fun w2 s2 => ?_
  refine Wn.call k_count7 s2 fun w3 s3 => ?_
  refine Wn.pos (show nI g.2.1.2.2.1 = 0 by rw [h0]; rfl) ?_
  have hf := fin w3 s3
  by_cases e : n = 0
  · refine Wn.pos (by rw [e]; rfl) ?_
    rw [if_pos e] at hf
    exact hf
  · refine Wn.neg (by rw [jeq0 (by omega)]; exact e) ?_
    rw [if_neg e] at hf
    exact hf
theorem keeps_26 (hG : GI g) (h0 : g.2.1.2.2.1 = 0) : ∀ (m k n : Nat) (R S : Nat → Nat) (x5 : Int32) (x3 : Nat) (a : Nat → Nat) (w : Wd), m + k = 26 → PA g a → dgP R n S → vb g.2.1.1 g.2.1.2.1 R n = true → (∀ i, i < n → a (28 + i) = R i) → (∀ u, u < 4 → dn R u n ≤ g.2.1.1 u) → x3 < 100 → St w ((n, S), g.2) a →
    Wn (x_L_keeps 26 [] [some (zr 7 0), some (zr 30 0), none, some (zi (nI x3)), some (zi (nI n)), some (zi x5), some (zi (nI (dn R 0 n))), some (zi (nI (dn R 1 n))), some (zi (nI (dn R 2 n))), some (zi (nI (dn R 3 n))), some (zi (nI k)), none, none, none, none] w) (KpP g) := by
  have len : ∀ {n : Nat} {R S a : Nat → Nat}, PA g a → dgP R n S → (∀ u, u < 4 → dn R u n ≤ g.2.1.1 u) → n ≤ 16 := fun {n R S a} hA hd hdn => by
    have hl := dn_len (R := R) (n := n) (fun i hi => (hd i hi).2) n (Nat.le_refl _)
    unfold len4 at hl
    dsimp only at hl
    have a0 := hdn 0 (by decide)
    have a1 := hdn 1 (by decide)
    have a2 := hdn 2 (by decide)
    have a3 := hdn 3 (by decide)
    have b0 := (hA.1 0 (by decide)).2
    have b1 := (hA.1 1 (by decide)).2
    have b2 := (hA.1 2 (by decide)).2
    have b3 := (hA.1 3 (by decide)).2
    omega
  intro m
  induction m with
  | zero =>
    intro k n R S x5 x3 a w hk hA hd hv hR hdn hx3 hS
    have : k = 26 := by omega
    subst this
    exact keeps_end hG hA h0 (len hA hd hdn) hd hv hR hS hx3
  | succ m ih =>
    intro k n R S x5 x3 a w hk hA hd hv hR hdn hx3 hS
    have hn := len hA hd hdn
    have hG1 : GI ((n, S), g.2) := ⟨dgP_SK hd (show n ≤ 40 by omega), hG.2⟩
    have hA1 : PA ((n, S), g.2) a := hA
    obtain ⟨t, ht, et⟩ := jand3 ((((1103515245 : Int64).toInt32) * x5 + (Int32.ofInt 12345)) >>> ((Int32.ofInt 16) &&& 31))
    rw [e_L_keeps_26]
    refine Wn.neg (by rw [jl, jle (by decide) (by omega)]; omega) ?_
    simp only [et]
    generalize ((1103515245 : Int64).toInt32) * x5 + (Int32.ofInt 12345) = x'
    have h87 : Wn (x_L_keeps 87 [zi (nI (dn R t n))] [some (zr 7 0), some (zr 30 0), none, some (zi (nI x3)), some (zi (nI n)), some (zi x'), some (zi (nI (dn R 0 n))), some (zi (nI (dn R 1 n))), some (zi (nI (dn R 2 n))), some (zi (nI (dn R 3 n))), some (zi (nI k)), some (zi (nI t)), none, none, none] w) (KpP g) := by
      refine Wn.rw (keeps_87 hG1 hA1 hS ht (d := fun u => dn R u n) hdn) ?_
      refine Wn.rw (keeps_158 hG1 hA1 hS ht (d := fun u => dn R u n) hdn hn) ?_
      by_cases hg : goS g.2.1.1 g.2.1.2.1 (fun u => dn R u n) t = true
      · refine Wn.pos hg ?_
        have hlt := goS_lt hg
        obtain ⟨q1, q2⟩ := put1 t ht
        have e239 : ∀ w, x_L_keeps 239 [zi (nI (if t = 0 then 1 else 0)), zi (nI (dn R 0 n))] [some (zr 7 0), some (zr 30 0), none, none, some (zi (nI (n + 1))), some (zi x'), none, some (zi (nI (dn R 1 n))), some (zi (nI (dn R 2 n))), some (zi (nI (dn R 3 n))), some (zi (nI k)), some (zi (nI t)), none, none, none] w =
            oC (f_X7_put 0 (y1 t) w) fun q => x_L_keeps 26 [] [some (zr 7 0), some (zr 30 0), none, some (zi q.1), some (zi (nI (n + 1))), some (zi x'), some (zi (nI (dn (up1 R n t) 0 (n + 1)))), some (zi (nI (dn (up1 R n t) 1 (n + 1)))), some (zi (nI (dn (up1 R n t) 2 (n + 1)))), some (zi (nI (dn (up1 R n t) 3 (n + 1)))), some (zi (nI (k + 1))), none, none, none, none] q.2 := fun w => by
          have ed : ∀ u, dn (up1 R n t) u (n + 1) = dn R u n + if t = u then 1 else 0 := fun u => by
            rw [dn, show up1 R n t n = t from if_pos rfl, dn_cg (B := R) fun j hj => (by unfold up1; rw [if_neg (by omega)])]
          rw [ed, ed, ed, ed, e_L_keeps_239]
          have ey : ((Int32.ofInt 48) + nI t).toInt64 = y1 t := rfl
          simp only [e_L_keeps_271, ey]
          generalize y1 t = y
          rcases four ht with rfl | rfl | rfl | rfl <;> simp (disch := omega) only [jl, jeq, Nat.reduceEqDiff, ↓reduceIte, nI_add]
        refine Wn.rw (e239 _) ?_
        refine Wn.call (k_put (g := ((n, S), g.2)) (y := y1 t) q1 (by decide) (show n + 1 ≤ 40 by omega)) (St_wI hS (28 + n) t) fun w1 s1 => ?_
        refine ih (k + 1) (n + 1) (up1 R n t) _ x' (n + 1) (up1 a (28 + n) t) w1 (by omega) ⟨fun u hu => ?_, fun u s hu hs => ?_⟩ (dgP_put' hd ht) ?_ (fun i hi => ?_) (fun u hu => ?_) (by omega) s1
        · unfold up1
          rw [if_neg (by omega)]
          exact hA.1 u hu
        · have h4 := (hA.1 u hu).2
          unfold up1
          rw [if_neg (by omega)]
          exact hA.2 u s hu hs
        · have e1 : vb g.2.1.1 g.2.1.2.1 (up1 R n t) n = true := by
            rw [vb_cg (B := R) n fun j hj => (by unfold up1; rw [if_neg (by omega)])]
            exact hv
          have e2 : sd (up1 R n t) n = fun u => dn R u n := by
            funext u
            exact dn_cg (fun j hj => by unfold up1; rw [if_neg (by omega)]) u
          rw [vb, e1, e2, show up1 R n t n = t from if_pos rfl, hg]
          rfl
        · unfold up1
          by_cases e : i = n
          · rw [if_pos (by omega), if_pos e]
          · rw [if_neg (by omega), if_neg e]
            exact hR i (by omega)
        · rw [dn, show up1 R n t n = t from if_pos rfl, dn_cg (B := R) fun j hj => (by unfold up1; rw [if_neg (by omega)])]
          by_cases e : t = u
          · rw [if_pos e]
            have hlt' : dn R t n < g.2.1.1 t := hlt
            rw [← e]
            omega
          · rw [if_neg e]
            exact hdn u hu
      · refine Wn.neg hg ?_
        exact ih (k + 1) n R S x' x3 a w (by omega) hA hd hv hR hdn hx3 hS
    rcases four ht with rfl | rfl | rfl | rfl
    · exact Wn.pos rfl h87
    · exact Wn.neg (by decide) (Wn.pos rfl h87)
    · exact Wn.neg (by decide) (Wn.neg (by decide) (Wn.pos rfl h87))
    · exact Wn.neg (by decide) (Wn.neg (by decide) (Wn.neg (by decide) h87))
theorem m_keeps (hG : GI g) (hA : PA g a) (h0 : g.2.1.2.2.1 = 0) {w : Wd} (hS : St w g a) (x : Int32) : Wn (f_L_keeps 0 0 x w) (KpP g) := by
  have hp := hG.1.1
  rw [e_L_keeps]
  refine Wn.call k_wipe hS fun w1 s1 => ?_
  rw [e_L_keeps_14]
  exact keeps_26 hG h0 26 0 0 (fun _ => 0) g.1.2 x g.1.1 a w1 rfl hA (fun j hj => by omega) rfl (fun i hi => by omega) (fun u _ => Nat.zero_le _) (by omega) s1
end KE
