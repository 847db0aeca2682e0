/-! THE CLASS EXPLORES: lookAt lays the numbers of runs and who can go. -/
theorem v_copyFromP (k0 k1 : Nat) (w : Wd) : f_X2_copyFrom k0 k1 w = some (wC (wC w 11 k1 0 11 k0 0 24) 12 k1 0 12 k0 0 4) := by
  rw [e_X2_copyFrom]
  simp (disch := omega) only [jl, jlt0, jcl, false_or, Nat.zero_add, Nat.lt_irrefl, ↓reduceIte]
theorem RP_copy {w : Wd} {k0 k1 : Nat} {L : Nat → Nat} {P : Nat → Nat → Nat} (hR : RP w k1 L P) (hW : WP L P) : RP (wC (wC w 11 k1 0 11 k0 0 24) 12 k1 0 12 k0 0 4) k0 L P := by
  refine ⟨fun t ht => ?_, fun t s ht hs => ?_⟩
  · rw [jc1, if_pos ⟨rfl, rfl, by omega, by omega⟩, jc1, if_neg (by omega), Nat.zero_add, Nat.sub_zero]
    exact hR.1 t ht
  · have hL := (hW t ht).1
    rw [jc1, if_neg (by omega), jc1, if_pos ⟨rfl, rfl, by omega, by omega⟩, Nat.zero_add, Nat.sub_zero]
    exact hR.2 t s ht hs
def S2 (f g : Nat → Nat → Bool) (t i : Nat) : Bool := f t i || g t i
theorem S2_l {f g : Nat → Nat → Bool} {t i : Nat} (h : S2 f g t i = false) : f t i = false := by
  unfold S2 at h; cases hf : f t i with
  | false => rfl
  | true => rw [hf] at h; cases h
theorem S2_r {f g : Nat → Nat → Bool} {t i : Nat} (h : S2 f g t i = false) : g t i = false := by
  unfold S2 at h; cases hg : g t i with
  | false => rfl
  | true => rw [hg, Bool.or_true] at h; cases h
def SPg (k : Nat) : Nat → Nat → Bool := S2 (S1 11 k) (S1 12 k)
theorem Fr_copyP (k0 k1 : Nat) (w : Wd) : Fr (SPg k0) w (wC (wC w 11 k1 0 11 k0 0 24) 12 k1 0 12 k0 0 4) :=
  (Fr.rf.wC (by unfold SPg S2; rw [S1_self]; rfl)).wC (by unfold SPg S2; rw [S1_self, Bool.or_true])
theorem v_same_in {w : Wd} {k0 k1 : Nat} {L L' : Nat → Nat} {P P' : Nat → Nat → Nat} (h0 : RP w k0 L' P') (h1 : RP w k1 L P) (hW' : WP L' P') (hW : WP L P) {t : Nat} (ht : t < 4) (hL : L' t = L t) : ∀ (n j : Nat), n + j = L t →
    (x_X2_sameAs 26 [] [some (zr 2 k0), some (zr 2 k1), some (zi (nI t)), some (zi (nI j))] w = x_X2_sameAs 2 [] [some (zr 2 k0), some (zr 2 k1), some (zi (nI (t + 1))), none] w ∧ ∀ i, j ≤ i → i < L t → P' t i = P t i) ∨ x_X2_sameAs 26 [] [some (zr 2 k0), some (zr 2 k1), some (zi (nI t)), some (zi (nI j))] w = some (nI 0, w) := by
  have h6 := (hW t ht).1
  intro n
  induction n with
  | zero =>
    intro j hj
    left
    refine ⟨?_, fun i g1 g2 => by omega⟩
    rw [e_X2_sameAs_26]
    simp (disch := omega) only [jchk, jcl, h0.1 t ht, jle, jl, nI_add]
    rw [if_pos (by omega)]
  | succ n ih =>
    intro j hj
    have hp := (hW t ht).2 j (by omega)
    have hp' := (hW' t ht).2 j (by omega)
    have e : x_X2_sameAs 26 [] [some (zr 2 k0), some (zr 2 k1), some (zi (nI t)), some (zi (nI j))] w = if P' t j = P t j then x_X2_sameAs 26 [] [some (zr 2 k0), some (zr 2 k1), some (zi (nI t)), some (zi (nI (j + 1)))] w else some (nI 0, w) := by
      rw [e_X2_sameAs_26, v_stepOf h0 hW' ht (by omega)]
      simp (disch := omega) only [jchk, jcl, h0.1 t ht, jle, jl, nI_add, joc, v_stepOf h1 hW ht (show j < L t by omega), jeq, jzb0]
      rw [if_neg (by omega)]
    rw [e]
    by_cases hpp : P' t j = P t j
    · rw [if_pos hpp]
      rcases ih (j + 1) (by omega) with ⟨g1, g2⟩ | g
      · left
        refine ⟨g1, fun i q1 q2 => ?_⟩
        by_cases hi : i = j
        · rw [hi, hpp]
        · exact g2 i (by omega) q2
      · exact Or.inr g
    · rw [if_neg hpp]
      exact Or.inr rfl
theorem v_same_out {w : Wd} {k0 k1 : Nat} {L L' : Nat → Nat} {P P' : Nat → Nat → Nat} (h0 : RP w k0 L' P') (h1 : RP w k1 L P) (hW' : WP L' P') (hW : WP L P) : ∀ (n t : Nat), n + t = 4 →
    (x_X2_sameAs 2 [] [some (zr 2 k0), some (zr 2 k1), some (zi (nI t)), none] w = some (nI 1, w) ∧ ∀ u, t ≤ u → u < 4 → L' u = L u ∧ ∀ i, i < L u → P' u i = P u i) ∨ x_X2_sameAs 2 [] [some (zr 2 k0), some (zr 2 k1), some (zi (nI t)), none] w = some (nI 0, w) := by
  intro n
  induction n with
  | zero =>
    intro t ht
    left
    refine ⟨?_, fun u g1 g2 => by omega⟩
    rw [e_X2_sameAs_2]
    simp (disch := omega) only [jl, jle, jzb1]
    rw [if_pos (by omega)]
  | succ n ih =>
    intro t ht
    have h4 : t < 4 := by omega
    have q1 := (hW t h4).1
    have q2 := (hW' t h4).1
    have e : x_X2_sameAs 2 [] [some (zr 2 k0), some (zr 2 k1), some (zi (nI t)), none] w = if L' t = L t then x_X2_sameAs 26 [] [some (zr 2 k0), some (zr 2 k1), some (zi (nI t)), some (zi (nI 0))] w else some (nI 0, w) := by
      rw [e_X2_sameAs_2]
      simp (disch := omega) only [jl, jle, jchk, jcl, h0.1 t h4, h1.1 t h4, jeq, jzb0]
      rw [if_neg (by omega)]
    rw [e]
    by_cases hL : L' t = L t
    · rw [if_pos hL]
      rcases v_same_in h0 h1 hW' hW h4 hL (L t) 0 rfl with ⟨g1, g2⟩ | g
      · rcases ih (t + 1) (by omega) with ⟨k1, k2⟩ | k
        · left
          refine ⟨g1.trans k1, fun u z1 z2 => ?_⟩
          by_cases hu : u = t
          · rw [hu]; exact ⟨hL, fun i hi => g2 i (Nat.zero_le _) hi⟩
          · exact k2 u (by omega) z2
        · exact Or.inr (g1.trans k)
      · exact Or.inr g
    · rw [if_neg hL]
      exact Or.inr rfl
theorem CN_eq {L L' : Nat → Nat} {P P' : Nat → Nat → Nat} (h : CN L P) (h' : CN L' P') (hL : ∀ u, u < 4 → L' u = L u ∧ ∀ i, i < L u → P' u i = P u i) : L' = L ∧ P' = P := by
  have e : L' = L := by
    funext u
    by_cases hu : u < 4
    · exact (hL u hu).1
    · rw [h.1 u (by omega), h'.1 u (by omega)]
  refine ⟨e, ?_⟩
  funext u i
  by_cases hu : u < 4
  · by_cases hi : i < L u
    · exact (hL u hu).2 i hi
    · rw [h.2 u i (by omega), h'.2 u i (by rw [e]; omega)]
  · rw [h.2 u i (by omega), h'.2 u i (by omega)]
theorem v_sameAs {w : Wd} {k0 k1 : Nat} {L L' : Nat → Nat} {P P' : Nat → Nat → Nat} (h0 : RP w k0 L' P') (h1 : RP w k1 L P) (hW' : WP L' P') (hW : WP L P) (h : CN L P) (h' : CN L' P') :
    (f_X2_sameAs k0 k1 w = some (nI 1, w) ∧ L' = L ∧ P' = P) ∨ f_X2_sameAs k0 k1 w = some (nI 0, w) := by
  rw [e_X2_sameAs]
  simp only [jl]
  rcases v_same_out h0 h1 hW' hW 4 0 rfl with ⟨g1, g2⟩ | g
  · exact Or.inl ⟨g1, CN_eq h h' fun u hu => g2 u (Nat.zero_le _) hu⟩
  · exact Or.inr g
section LK
variable {L : Nat → Nat} {P : Nat → Nat → Nat}
def go8 (L : Nat → Nat) (P : Nat → Nat → Nat) (i t : Nat) : Bool := goS L P (d8 i) t
theorem W8_def : W8 L P = zW g8 (go8 L P) := rfl
def SLk : Nat → Nat → Bool := S2 (S1 14 1) (S1 17 1)
theorem go8_next (hW : WP L P) {c t : Nat} (hc : c < 4096) (ht : t < 4) (hg : go8 L P c t = true) : c + g8 t < 4096 := by
  have h1 := goS_lt hg
  have h2 := (hW t ht).1
  exact (ds8.2.2.2 c t hc ht (by omega)).1
theorem v_goFrom_lp (hW : WP L P) {c : Nat} (hc : c < 4096) : ∀ (n t : Nat) (w : Wd), n + t = 4 → w.1 14 1 c = nI (msk (goS L P (d8 c))) → (∀ x, x < 4096 → w.2 17 1 x = lN (zWp g8 (go8 L P) c t x)) →
    ∃ w', x_X5_goFrom 13 [] [some (zr 5 0), some (zi (nI c)), some (zi (nI t))] w = some w' ∧ Fr SLk w w' ∧ w'.1 = w.1 ∧ ∀ x, x < 4096 → w'.2 17 1 x = lN (zWp g8 (go8 L P) c 4 x) := by
  intro n
  induction n with
  | zero =>
    intro t w ht hg hA
    have : t = 4 := by omega
    subst this
    refine ⟨w, ?_, Fr.rf, rfl, hA⟩
    rw [e_X5_goFrom_13]
    simp (disch := omega) only [jl, jle]
    rw [if_pos (by omega)]
  | succ n ih =>
    intro t w ht hg hA
    have h4 : t < 4 := by omega
    have hm := msk_lt (goS L P (d8 c))
    have hgp : 0 < g8 t := Nat.pow_pos (by decide)
    by_cases hgo : goS L P (d8 c) t = true
    · have hn := go8_next (P := P) hW hc h4 hgo
      have hn' : c + 2 ^ (9 - 3 * t) < 4096 := hn
      have e1 := hA c hc
      rw [zWp_self] at e1
      have e2 := hA (c + g8 t) hn
      obtain ⟨w', h1, h2, h3, h5⟩ := ih (t + 1) (wL w 17 1 (c + g8 t) (lN (zWp g8 (go8 L P) c t (c + g8 t) + W8 L P c))) (by omega) hg (fun x hx => by
        rw [jl2, zWp_st h4 hgp]
        by_cases hxe : x = c + g8 t
        · rw [if_pos ⟨rfl, rfl, hxe⟩, hxe, if_pos ⟨rfl, hgo⟩]
          rfl
        · rw [if_neg (fun z => hxe z.2.2), if_neg (fun z => hxe z.1), Nat.add_zero]
          exact hA x hx)
      refine ⟨w', ?_, (Fr.rf.wL (by decide)).tr h2, h3, h5⟩
      rw [← h1, e_X5_goFrom_13]
      have em : (c + 2 ^ (9 - 3 * t)) % 4096 = c + g8 t := Nat.mod_eq_of_lt hn'
      simp (disch := omega) only [jl, jle, jchk, jcl, hg, v_isIn, joc, j01, msk_bit _ h4, hgo, v_standAfter, em, nI_add, e1, e2, lN_add, Bool.true_eq_false, ↓reduceIte]
      rw [if_neg (by omega)]
      rfl
    · have hgf : goS L P (d8 c) t = false := by
        cases h : goS L P (d8 c) t with
        | false => rfl
        | true => exact absurd h hgo
      obtain ⟨w', h1, h2, h3, h5⟩ := ih (t + 1) w (by omega) hg (fun x hx => by
        rw [zWp_st h4 hgp, if_neg (fun z => hgo z.2), Nat.add_zero]
        exact hA x hx)
      refine ⟨w', ?_, h2, h3, h5⟩
      rw [← h1, e_X5_goFrom_13]
      simp (disch := omega) only [jl, jle, jchk, jcl, hg, v_isIn, joc, j01, msk_bit _ h4, hgf, nI_add, ↓reduceIte]
      rw [if_neg (by omega)]
/-- who goes, as the class notes it: of stands that can be come to -/
def gG (L : Nat → Nat) (P : Nat → Nat → Nat) (c : Nat) : Nat := if W8 L P c = 0 then 0 else msk (goS L P (d8 c))
theorem v_goFrom {w : Wd} (hR : RP w 10 L P) (hW : WP L P) (hE : WE L P) (hH : HC w L P) {c : Nat} (hc : c < 4096) (hr : W8 L P c ≠ 0) (hA : ∀ x, x < 4096 → w.2 17 1 x = lN (zWp g8 (go8 L P) c 0 x)) :
    ∃ w', f_X5_goFrom 0 (nI c) w = some w' ∧ Fr SLk w w' ∧ (∀ x, w'.1 14 1 x = if x = c then nI (gG L P c) else w.1 14 1 x) ∧ ∀ x, x < 4096 → w'.2 17 1 x = lN (zWp g8 (go8 L P) (c + 1) 0 x) := by
  have hv := ds_reach ds8 hW c hc hr
  obtain ⟨w', h1, h2, h3, h5⟩ := v_goFrom_lp (P := P) hW hc 4 0 (wI w 14 1 c (nI (msk (goS L P (d8 c))))) rfl (by rw [jw1, if_pos ⟨rfl, rfl, rfl⟩]) hA
  refine ⟨w', ?_, (Fr.rf.wI (by decide)).tr h2, fun x => ?_, fun x hx => by rw [h5 x hx, zWp_4]⟩
  · rw [← h1, e_X5_goFrom, v_threads hR hW hE hH hc hv]
    simp (disch := omega) only [joc, jl, jchk, jcl]
  · rw [h3, jw1]
    unfold gG
    rw [if_neg hr]
    by_cases hx : x = c
    · rw [if_pos ⟨rfl, rfl, hx⟩, if_pos hx]
    · rw [if_neg (fun z => hx z.2.2), if_neg hx]
theorem v_look_lp (hW : WP L P) (hE : WE L P) : ∀ (n c : Nat) (w : Wd), n + c = 4096 → RP w 10 L P → HC w L P → (∀ x, x < 4096 → w.2 17 1 x = lN (zWp g8 (go8 L P) c 0 x)) → (∀ x, x < 4096 → w.1 14 1 x = nI (if x < c then gG L P x else 0)) →
    ∃ w', x_X5_lookAt 66 [] [some (zr 5 0), none, some (zi (nI c))] w = some w' ∧ Fr SLk w w' ∧ (∀ x, x < 4096 → w'.2 17 1 x = lN (W8 L P x)) ∧ ∀ x, x < 4096 → w'.1 14 1 x = nI (gG L P x) := by
  intro n
  induction n with
  | zero =>
    intro c w hc hR hH hA hG
    have : c = 4096 := by omega
    subst this
    refine ⟨w, ?_, Fr.rf, fun x hx => ?_, fun x hx => ?_⟩
    · rw [e_X5_lookAt_66]
      simp (disch := omega) only [jl, jle]
      rw [if_pos (by omega)]
    · rw [hA x hx, zWp_end hx]; rfl
    · rw [hG x hx, if_pos hx]
  | succ n ih =>
    intro c w hc hR hH hA hG
    have hc' : c < 4096 := by omega
    have hs : zW g8 (go8 L P) c < 281474976710657 := ds_small ds8 (P := P) hW hc'
    have e1 := hA c hc'
    rw [zWp_self] at e1
    have hre := v_isReachable hc' e1 (by omega)
    by_cases hz : W8 L P c = 0
    · have hz' : zW g8 (go8 L P) c = 0 := hz
      obtain ⟨w', h1, h2, h3, h4⟩ := ih (c + 1) w (by omega) hR hH (fun x hx => by rw [zWp_skip hz']; exact hA x hx) (fun x hx => by
        rw [hG x hx]
        by_cases hxe : x = c
        · rw [hxe, if_neg (by omega), if_pos (by omega)]
          unfold gG
          rw [if_pos hz]
        · by_cases hlt : x < c
          · rw [if_pos hlt, if_pos (by omega)]
          · rw [if_neg hlt, if_neg (by omega)])
      refine ⟨w', ?_, h2, h3, h4⟩
      rw [← h1, e_X5_lookAt_66, hre]
      simp (disch := omega) only [jl, jle, joc, j01, hz', nI_add, decide_true, Bool.not_true, ↓reduceIte]
      rw [if_neg (by omega)]
    · obtain ⟨w1, g1, g2, g3, g4⟩ := v_goFrom hR hW hE hH hc' hz hA
      obtain ⟨w', h1, h2, h3, h4⟩ := ih (c + 1) w1 (by omega) (g2.RP rfl rfl hR) (fun t ht d hd => by rw [(g2 18 0 rfl).1]; exact hH t ht d hd) g4 (fun x hx => by
        rw [g3 x]
        by_cases hxe : x = c
        · rw [if_pos hxe, hxe, if_pos (by omega)]
        · rw [if_neg hxe, hG x hx]
          by_cases hlt : x < c
          · rw [if_pos hlt, if_pos (by omega)]
          · rw [if_neg hlt, if_neg (by omega)])
      refine ⟨w', ?_, g2.tr h2, h3, h4⟩
      have hz' : ¬ zW g8 (go8 L P) c = 0 := hz
      rw [← h1, e_X5_lookAt_66, hre]
      simp (disch := omega) only [jl, jle, joc, hz', nI_add, decide_false, Bool.not_false, jeq0, Nat.reduceEqDiff, ↓reduceIte, g1]
      rw [if_neg (by omega)]
/-- the stands are explored -/
def SPX (w : Wd) (L : Nat → Nat) (P : Nat → Nat → Nat) : Prop := RP w 10 L P ∧ HC w L P ∧ (∀ x, x < 4096 → w.2 17 1 x = lN (W8 L P x)) ∧ (∀ x, x < 4096 → w.1 14 1 x = nI (gG L P x)) ∧ w.1 5 0 1 = nI 1
def SSp : Nat → Nat → Bool := S2 (S1 5 0) (S2 (SPg 10) (S2 (S1 18 0) SLk))
theorem v_lookAt_19 (hW : WP L P) (hE : WE L P) {k : Nat} {w : Wd} (hk : k ≠ 10) (hR : RP w k L P) : ∃ w', x_X5_lookAt 19 [] [some (zr 5 0), some (zr 2 k), none] w = some w' ∧ Fr SSp w w' ∧ SPX w' L P ∧ w'.1 5 0 5 = nI 0 := by
  have hR1 : RP (wC (wC w 11 k 0 11 10 0 24) 12 k 0 12 10 0 4) 10 L P := RP_copy hR hW
  have f1 : Fr SSp w (wC (wC w 11 k 0 11 10 0 24) 12 k 0 12 10 0 4) := (Fr_copyP 10 k w).mono fun t i h => S2_l (S2_r h)
  generalize hw1 : wC (wC w 11 k 0 11 10 0 24) 12 k 0 12 10 0 4 = w1 at hR1 f1
  have f2 : Fr SSp w1 (wI (wI w1 5 0 1 (nI 1)) 5 0 5 (nI 0)) := (Fr.rf.wI (by decide)).wI (by decide)
  have f2' : Fr (S1 5 0) w1 (wI (wI w1 5 0 1 (nI 1)) 5 0 5 (nI 0)) := (Fr.rf.wI (by decide)).wI (by decide)
  obtain ⟨w2, a1, a2, a3⟩ := v_noteHeldLocks hW hE (f2'.RP rfl rfl hR1)
  obtain ⟨w3, b1, b2, b3⟩ := v_fill_I (k := 1) (len := 4096) rfl (nI 0) w2
  obtain ⟨w4, c1, c2, c3⟩ := v_fill_J (k := 1) (len := 4096) rfl (lN 0) w3
  have f4 : Fr SLk w4 (wL w4 17 1 0 (lN 1)) := Fr.rf.wL (by decide)
  have hR2 : RP w2 10 L P := a2.RP rfl rfl (f2'.RP rfl rfl hR1)
  have hR3 : RP (wL w4 17 1 0 (lN 1)) 10 L P := f4.RP rfl rfl (c2.RP rfl rfl (b2.RP rfl rfl hR2))
  have hH3 : HC (wL w4 17 1 0 (lN 1)) L P := fun t ht d hd => by
    rw [jl1, (c2 18 0 rfl).1, (b2 18 0 rfl).1]
    exact a3 t ht d hd
  obtain ⟨w5, d1, d2, d3, d4⟩ := v_look_lp hW hE 4096 0 (wL w4 17 1 0 (lN 1)) rfl hR3 hH3 (fun x hx => by
    rw [jl2, zWp_0]
    by_cases h0 : x = 0
    · rw [if_pos ⟨rfl, rfl, h0⟩, if_pos h0]
    · rw [if_neg (fun z => h0 z.2.2), if_neg h0]
      exact c3 x hx) (fun x hx => by
    rw [jl1, (c2 14 1 rfl).1, if_neg (by omega)]
    exact b3 x hx)
  have fx : w5.1 5 0 = (wI (wI w1 5 0 1 (nI 1)) 5 0 5 (nI 0)).1 5 0 := by
    rw [(d2 5 0 rfl).1, jl1, (c2 5 0 rfl).1, (b2 5 0 rfl).1, (a2 5 0 rfl).1]
  refine ⟨w5, ?_, ?_, ⟨d2.RP rfl rfl hR3, fun t ht d hd => ?_, d3, d4, ?_⟩, ?_⟩
  · rw [← d1, e_X5_lookAt_19, v_copyFromP, hw1, joc]
    simp (disch := omega) only [jl, jlL, jzb0, jzb1, a1, b1, c1, joc, jchk, jcl]
  · exact f1.tr (f2.tr ((a2.mono fun t i h => S2_l (S2_r (S2_r h))).tr ((b2.mono fun t i h => S2_l (S2_r (S2_r (S2_r h)))).tr ((c2.mono fun t i h => S2_r (S2_r (S2_r (S2_r h)))).tr ((f4.tr d2).mono fun t i h => S2_r (S2_r (S2_r h)))))))
  · rw [(d2 18 0 rfl).1]
    exact hH3 t ht d hd
  · rw [fx, jw1, if_neg (by decide), jw1, if_pos ⟨rfl, rfl, rfl⟩]
  · rw [fx, jw1, if_pos ⟨rfl, rfl, rfl⟩]
/-- lookAt: what was explored last stays, or all is explored anew -/
theorem v_lookAt (hW : WP L P) (hE : WE L P) (hN : CN L P) {k : Nat} {w : Wd} (hk : k ≠ 10) (hR : RP w k L P) {L' : Nat → Nat} {P' : Nat → Nat → Nat} (hS : w.1 5 0 1 = nI 0 ∨ SPX w L' P' ∧ WP L' P' ∧ CN L' P') :
    ∃ w', f_X5_lookAt 0 k w = some w' ∧ Fr SSp w w' ∧ SPX w' L P ∧ (w' = w ∧ L' = L ∧ P' = P ∨ w'.1 5 0 5 = nI 0) := by
  have anew : (f_X5_lookAt 0 k w = x_X5_lookAt 19 [] [some (zr 5 0), some (zr 2 k), none] w) → ∃ w', f_X5_lookAt 0 k w = some w' ∧ Fr SSp w w' ∧ SPX w' L P ∧ (w' = w ∧ L' = L ∧ P' = P ∨ w'.1 5 0 5 = nI 0) := fun h => by
    obtain ⟨w', h1, h2, h3, h4⟩ := v_lookAt_19 hW hE hk hR
    exact ⟨w', h.trans h1, h2, h3, Or.inr h4⟩
  rcases hS with h0 | ⟨hX, hW', hN'⟩
  · refine anew ?_
    rw [e_X5_lookAt, h0]
    simp (disch := omega) only [jeq0, ↓reduceIte]
  · have h1 := hX.2.2.2.2
    rcases v_sameAs hX.1 hR hW' hW hN hN' with ⟨g1, g2, g3⟩ | g
    · refine ⟨w, ?_, Fr.rf, by rw [← g2, ← g3]; exact hX, Or.inl ⟨rfl, g2, g3⟩⟩
      rw [e_X5_lookAt, h1, g1]
      simp (disch := omega) only [jeq0, joc, Nat.reduceEqDiff, ↓reduceIte]
    · refine anew ?_
      rw [e_X5_lookAt, h1, g]
      simp (disch := omega) only [jeq0, joc, Nat.reduceEqDiff, ↓reduceIte]
end LK
