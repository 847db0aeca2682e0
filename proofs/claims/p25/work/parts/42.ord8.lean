/-! THE ORDER OF A RUN: the class. -/
section O8
variable {L : Nat → Nat} {P : Nat → Nat → Nat} {R : Nat → Nat} {n : Nat}
/-- a run that can go -/
def VR (L : Nat → Nat) (P : Nat → Nat → Nat) (n : Nat) (R : Nat → Nat) : Prop := n ≤ 24 ∧ (∀ i, i < n → R i < 4) ∧ vb L P R n = true
theorem VR_wh (hV : VR L P n R) {i : Nat} (hi : i < n) : wh R i < L (R i) := goS_lt (vb_go hV.2.2 hi)
theorem VR_dn (hW : WP L P) (hV : VR L P n R) {i t : Nat} (hi : i ≤ n) (ht : t < 4) : dn R t i ≤ L t := by
  obtain ⟨h1, h2, h3, h4⟩ := st_all hW hV.2.1 hV.2.2 i hi
  have := ds_reach ds7 hW _ h1 h3 t ht
  rw [h2] at this
  exact this
theorem VR_cd (hW : WP L P) (hV : VR L P n R) {i : Nat} (hi : i < n) : cd P R i < 16 := (hW (R i) (hV.2.1 i hi)).2 _ (VR_wh hV hi)
theorem v_needed_lp (hW : WP L P) {w : Wd} (hRP : RP w 0 L P) {c u : Nat} (hc : c < 16) (hu : u < 4) : ∀ d, d ≤ L u → x_X4_neededSteps 8 [] [none, some (zr 2 0), some (zi (nI c)), some (zi (nI u)), some (zi (nI d))] w = some (nI (nst P c u d), w) := by
  have hL := (hW u hu).1
  intro d
  induction d with
  | zero =>
    intro _
    rw [e_X4_neededSteps_8, if_pos (by decide)]
    rfl
  | succ d ih =>
    intro hd
    rw [e_X4_neededSteps_8, jpred]
    simp (disch := omega) only [jl, jle0, jsub, Nat.add_sub_cancel, v_stepOf hRP hW hu (show d < L u by omega), joc, v_commute hc ((hW u hu).2 d (by omega)), j01, ih (by omega)]
    rw [if_neg (by omega), nst]
    cases cm c (P u d) <;> rfl
/-- the order, as far as the run has been taken -/
def LO (w : Wd) (P : Nat → Nat → Nat) (R : Nat → Nat) (i : Nat) : Prop :=
  (∀ t, t < 4 → w.1 14 0 t = nI (dn R t i)) ∧ (∀ j, j < i → ∀ u, u < 4 → w.1 15 0 ((R j * 6 + wh R j) * 4 + u) = nI (nd P R j u)) ∧ (∀ j, j < i → w.1 16 0 (R j * 6 + wh R j) = nI (ch P R j)) ∧ w.1 4 0 3 = nI (mxA (ch P R) i) ∧ w.1 4 0 4 = nI (stN g8 R i)
def SO : Nat → Nat → Bool := S2 (S2 (S1 14 0) (S1 15 0)) (S2 (S1 16 0) (S1 4 0))
/-- the greatest chain of those before, of the first threads -/
def IM (P : Nat → Nat → Nat) (R : Nat → Nat) (i u a : Nat) : Prop := (∀ j, j < i → td P R j i = true → R j < u → ch P R j ≤ a) ∧ (a = 0 ∨ ∃ j, j < i ∧ td P R j i = true ∧ ch P R j = a)
theorem IM_uniq {i a : Nat} (hR : ∀ j, j < i → R j < 4) (h : IM P R i 4 a) : mxT P R (ch P R) i i = a := by
  rcases mxT_in (P := P) (R := R) (f := ch P R) (k := i) i with h0 | ⟨j, h1, h2, h3⟩
  · rcases h.2 with h4 | ⟨j, h1, h2, h3⟩
    · omega
    · have := mxT_ge (f := ch P R) i j h1 h2
      omega
  · have := h.1 j h1 h2 (hR j h1)
    rcases h.2 with h4 | ⟨k, g1, g2, g3⟩
    · omega
    · have := mxT_ge (f := ch P R) i k g1 g2
      omega
theorem v_step_lp (hW : WP L P) (hV : VR L P n R) {i : Nat} (hi : i < n) : ∀ (k u a : Nat) (w : Wd), k + u = 4 → RP w 0 L P → LO w P R i → (∀ v, v < u → w.1 15 0 ((R i * 6 + wh R i) * 4 + v) = nI (nd P R i v)) → IM P R i u a →
    ∃ w', x_X4_addStep 52 [] [some (zr 4 0), some (zr 2 0), some (zi (nI (R i))), some (zi (nI (wh R i))), some (zi (nI (R i * 6 + wh R i))), some (zi (nI (cd P R i))), some (zi (nI a)), some (zi (nI u)), none] w =
      x_X4_addStep 52 [] [some (zr 4 0), some (zr 2 0), some (zi (nI (R i))), some (zi (nI (wh R i))), some (zi (nI (R i * 6 + wh R i))), some (zi (nI (cd P R i))), some (zi (nI (mxT P R (ch P R) i i))), some (zi (nI 4)), none] w' ∧ Fr (S1 15 0) w w' ∧ LO w' P R i ∧ (∀ v, v < 4 → w'.1 15 0 ((R i * 6 + wh R i) * 4 + v) = nI (nd P R i v)) := by
  have hRi := hV.2.1 i hi
  have hwi := VR_wh hV hi
  have hLi := (hW (R i) hRi).1
  intro k
  induction k with
  | zero =>
    intro u a w hk hRP hL h15 hM
    have : u = 4 := by omega
    subst this
    rw [IM_uniq (fun j hj => hV.2.1 j (by omega)) hM]
    exact ⟨w, rfl, Fr.rf, hL, h15⟩
  | succ k ih =>
    intro u a w hk hRP hL h15 hM
    have hu : u < 4 := by omega
    have hdu := VR_dn hW hV (show i ≤ n by omega) hu
    have hLu := (hW u hu).1
    have hndle : nd P R i u ≤ dn R u i := nd_le
    have f1 : Fr (S1 15 0) w (wI w 15 0 ((R i * 6 + wh R i) * 4 + u) (nI (nd P R i u))) := Fr.rf.wI (S1_self 15 0)
    have hL1 : LO (wI w 15 0 ((R i * 6 + wh R i) * 4 + u) (nI (nd P R i u))) P R i := ⟨fun t ht => by rw [(f1 14 0 rfl).1]; exact hL.1 t ht, fun j hj v hv => by
      have hRj := hV.2.1 j (by omega)
      have hwj := VR_wh hV (show j < n by omega)
      have hLj := (hW (R j) hRj).1
      rw [jw1]
      by_cases e : R j = R i ∧ wh R j = wh R i
      · have := wh_inj e.1 e.2
        omega
      · rw [if_neg (fun z => e (by have := z.2.2; omega))]
        exact hL.2.1 j hj v hv, fun j hj => by rw [(f1 16 0 rfl).1]; exact hL.2.2.1 j hj, by rw [(f1 4 0 rfl).1]; exact hL.2.2.2.1, by rw [(f1 4 0 rfl).1]; exact hL.2.2.2.2⟩
    have h15' : ∀ v, v < u + 1 → (wI w 15 0 ((R i * 6 + wh R i) * 4 + u) (nI (nd P R i u))).1 15 0 ((R i * 6 + wh R i) * 4 + v) = nI (nd P R i v) := fun v hv => by
      rw [jw1]
      by_cases e : v = u
      · rw [if_pos ⟨rfl, rfl, by rw [e]⟩, e]
      · rw [if_neg (by omega)]
        exact h15 v (by omega)
    have key : ∃ w', x_X4_addStep 77 [zi (nI (nd P R i u))] [some (zr 4 0), some (zr 2 0), some (zi (nI (R i))), some (zi (nI (wh R i))), some (zi (nI (R i * 6 + wh R i))), some (zi (nI (cd P R i))), some (zi (nI a)), some (zi (nI u)), none] w =
      x_X4_addStep 52 [] [some (zr 4 0), some (zr 2 0), some (zi (nI (R i))), some (zi (nI (wh R i))), some (zi (nI (R i * 6 + wh R i))), some (zi (nI (cd P R i))), some (zi (nI (mxT P R (ch P R) i i))), some (zi (nI 4)), none] w' ∧ Fr (S1 15 0) w w' ∧ LO w' P R i ∧ (∀ v, v < 4 → w'.1 15 0 ((R i * 6 + wh R i) * 4 + v) = nI (nd P R i v)) := by
      rw [e_X4_addStep_77]
      simp (disch := omega) only [jl, jmul, nI_add, jchk, jcl, jle0, jsub]
      by_cases h0 : nd P R i u = 0
      · rw [if_pos h0]
        obtain ⟨w', h1, h2, h3⟩ := ih (u + 1) a _ (by omega) (f1.RP rfl rfl hRP) hL1 h15' ⟨fun j hj ht hju => by
          by_cases e : R j = u
          · have := nd_ge hj ht
            rw [e] at this
            omega
          · exact hM.1 j hj ht (by omega), hM.2⟩
        exact ⟨w', h1, f1.tr h2, h3⟩
      · rw [if_neg h0]
        obtain ⟨j, j1, j2, j3, j4⟩ := nd_in h0
        have hcj := hL1.2.2.1 j j1
        have hcle := ch_le_self (P := P) (R := R) j
        have hale : a ≤ 25 := by
          rcases hM.2 with h | ⟨m, m1, m2, m3⟩
          · omega
          · have := ch_le_self (P := P) (R := R) m
            have := hV.1
            omega
        rw [j2, j4, show u * 6 + (nd P R i u - 1) = u * 6 + nd P R i u - 1 by omega] at hcj
        have hjn := hV.1
        simp (disch := omega) only [hcj, jlt]
        have hmax : ∀ b, b = (if a < ch P R j then ch P R j else a) → IM P R i (u + 1) b := fun b hb => by
          refine ⟨fun m hm ht hmu => ?_, ?_⟩
          · by_cases e : R m = u
            · have h6 := nd_ge hm ht
              rw [e] at h6
              have h7 : ch P R m ≤ ch P R j := by
                rcases Nat.lt_trichotomy m j with q | q | q
                · have : td P R m j = true := by
                    unfold td
                    rw [e, j2]
                    simp
                  have := ch_lt q this
                  omega
                · rw [q]; exact Nat.le_refl _
                · have := wh_lt q (show R j = R m by rw [j2, e])
                  omega
              rw [hb]
              split <;> omega
            · have := hM.1 m hm ht (by omega)
              rw [hb]
              split <;> omega
          · rw [hb]
            split
            · exact Or.inr ⟨j, j1, j3, rfl⟩
            · exact hM.2
        have e3 : (if a < ch P R j then nI (ch P R j) else nI a) = nI (if a < ch P R j then ch P R j else a) := jite _ _ _
        rw [e3]
        obtain ⟨w', h1, h2, h3⟩ := ih (u + 1) (if a < ch P R j then ch P R j else a) _ (by omega) (f1.RP rfl rfl hRP) hL1 h15' (hmax _ rfl)
        exact ⟨w', h1, f1.tr h2, h3⟩
    rw [e_X4_addStep_52]
    simp (disch := omega) only [jl, jle, jeq]
    rw [if_neg (by omega)]
    by_cases e : u = R i
    · rw [if_pos e]
      have e4 : nd P R i u = wh R i := if_pos e
      rw [e4] at key
      exact key
    · rw [if_neg e]
      have e4 : nd P R i u = nst P (cd P R i) u (dn R u i) := if_neg e
      have hnd : f_X4_neededSteps 0 0 (nI (cd P R i)) (nI u) w = some (nI (nd P R i u), w) := by
        rw [e_X4_neededSteps, e4]
        simp (disch := omega) only [jchk, jcl, hL.1 u hu]
        exact v_needed_lp hW hRP (VR_cd hW hV hi) hu _ hdu
      rw [hnd, joc]
      exact key
theorem v_addStep (hW : WP L P) (hV : VR L P n R) {i : Nat} (hi : i < n) {w : Wd} (hRP : RP w 0 L P) (hL : LO w P R i) : ∃ w', f_X4_addStep 0 0 (nI (R i)) w = some w' ∧ Fr SO w w' ∧ LO w' P R (i + 1) := by
  have hRi := hV.2.1 i hi
  have hwi := VR_wh hV hi
  have hLi := (hW (R i) hRi).1
  have hn := hV.1
  have hw0 : w.1 14 0 (R i) = nI (wh R i) := hL.1 _ hRi
  have hcd : P (R i) (wh R i) = cd P R i := rfl
  obtain ⟨w1, a1, a2, a3, a4⟩ := v_step_lp hW hV hi 4 0 0 w rfl hRP hL (fun v hv => by omega) ⟨fun j _ _ h => by omega, Or.inl rfl⟩
  have e52 : f_X4_addStep 0 0 (nI (R i)) w = x_X4_addStep 52 [] [some (zr 4 0), some (zr 2 0), some (zi (nI (R i))), some (zi (nI (wh R i))), some (zi (nI (R i * 6 + wh R i))), some (zi (nI (cd P R i))), some (zi (nI 0)), some (zi (nI 0)), none] w := by
    rw [e_X4_addStep, v_isThread (by omega), joc, if_pos hRi]
    rw [if_neg (show ¬ nI 1 = (0 : Int32) by decide)]
    simp (disch := omega) only [jl, jchk, jcl, hw0, v_stepOf hRP hW hRi hwi, joc, jmul, nI_add, hcd]
    have := VR_cd hW hV hi
    rw [if_neg (show ¬ nI (cd P R i) = Int32.ofInt (-1) by rw [jm1 (by omega)]; exact id)]
  have hst := st_all hW hV.2.1 hV.2.2 i (by omega)
  have hst1 := st_all hW hV.2.1 hV.2.2 (i + 1) (by omega)
  have h8 : stN g8 R i < 4096 := by rw [← hst.2.2.2]; exact eN_lt40 hst.1
  have h81 : stN g8 R (i + 1) < 4096 := by rw [← hst1.2.2.2]; exact eN_lt40 hst1.1
  have hchi : ch P R i = mxT P R (ch P R) i i + 1 := ch_eq i
  have hchle := ch_le_self (P := P) (R := R) i
  have hmxle : mxA (ch P R) i ≤ 25 := mxA_le i fun j hj => by
    have := ch_le_self (P := P) (R := R) j
    omega
  have hmx1 : mxA (ch P R) (i + 1) = if mxA (ch P R) i < ch P R i then ch P R i else mxA (ch P R) i := rfl
  have x16 := wI w1 16 0 (R i * 6 + wh R i) (nI (ch P R i))
  have hd0 := VR_dn hW hV (show i + 1 ≤ n by omega) hRi
  have hdn1 : dn R (R i) (i + 1) = wh R i + 1 := by rw [dn, if_pos rfl]; rfl
  let w2 := wI w1 16 0 (R i * 6 + wh R i) (nI (ch P R i))
  let w3 := wI w2 4 0 3 (nI (mxA (ch P R) (i + 1)))
  let w4 := wI w3 14 0 (R i) (nI (wh R i + 1))
  let w5 := wI w4 4 0 4 (nI (stN g8 R (i + 1)))
  have hend : x_X4_addStep 52 [] [some (zr 4 0), some (zr 2 0), some (zi (nI (R i))), some (zi (nI (wh R i))), some (zi (nI (R i * 6 + wh R i))), some (zi (nI (cd P R i))), some (zi (nI (mxT P R (ch P R) i i))), some (zi (nI 4)), none] w1 = some w5 := by
    rw [e_X4_addStep_52]
    have e43 : (wI w1 16 0 (R i * 6 + wh R i) (nI (ch P R i))).1 4 0 3 = nI (mxA (ch P R) i) := by
      rw [jw1, if_neg (by omega)]
      exact a3.2.2.2.1
    have e14 : (wI (wI w1 16 0 (R i * 6 + wh R i) (nI (ch P R i))) 4 0 3 (nI (mxA (ch P R) (i + 1)))).1 14 0 (R i) = nI (wh R i) := by
      rw [jw1, if_neg (by omega), jw1, if_neg (by omega)]
      exact a3.1 _ hRi
    have e44 : (wI (wI (wI w1 16 0 (R i * 6 + wh R i) (nI (ch P R i))) 4 0 3 (nI (mxA (ch P R) (i + 1)))) 14 0 (R i) (nI (wh R i + 1))).1 4 0 4 = nI (stN g8 R i) := by
      rw [jw1, if_neg (by omega), jw1, if_neg (by omega), jw1, if_neg (by omega)]
      exact a3.2.2.2.2
    have e3 : (if mxA (ch P R) i < ch P R i then nI (ch P R i) else nI (mxA (ch P R) i)) = nI (mxA (ch P R) (i + 1)) := by rw [hmx1]; exact jite _ _ _
    simp (disch := omega) only [jl, jle, Nat.le_refl, ↓reduceIte, jchk, jcl, nI_add, ← hchi, e43, jlt, e3, e14, e44, v_standAfter h8 hRi, joc]
    rw [show (stN g8 R i + 2 ^ (9 - 3 * R i)) % 4096 = stN g8 R (i + 1) from Nat.mod_eq_of_lt h81]
  have f5 : Fr SO w w5 := (a2.mono fun t i h => S2_r (S2_l h)).tr ((((Fr.rf.wI (by decide)).wI (by decide)).wI (by decide)).wI (by decide))
  refine ⟨w5, by rw [e52, a1, hend], f5, fun t ht => ?_, fun j hj u hu => ?_, fun j hj => ?_, ?_, ?_⟩
  · show (wI w4 4 0 4 _).1 14 0 t = _
    rw [jw1, if_neg (by omega)]
    show (wI w3 14 0 (R i) _).1 14 0 t = _
    rw [jw1]
    by_cases e : t = R i
    · rw [if_pos ⟨rfl, rfl, e⟩, e, hdn1]
    · rw [if_neg (fun z => e z.2.2), dn, if_neg (fun z => e z.symm), Nat.add_zero]
      show (wI w2 4 0 3 _).1 14 0 t = _
      rw [jw1, if_neg (by omega)]
      show (wI w1 16 0 _ _).1 14 0 t = _
      rw [jw1, if_neg (by omega)]
      exact a3.1 t ht
  · have e : w5.1 15 0 = w1.1 15 0 := by
      funext x
      show (wI w4 4 0 4 _).1 15 0 x = _
      rw [jw1, if_neg (by omega)]
      show (wI w3 14 0 (R i) _).1 15 0 x = _
      rw [jw1, if_neg (by omega)]
      show (wI w2 4 0 3 _).1 15 0 x = _
      rw [jw1, if_neg (by omega)]
      show (wI w1 16 0 _ _).1 15 0 x = _
      rw [jw1, if_neg (by omega)]
    rw [e]
    by_cases e2 : j = i
    · rw [e2]
      exact a4 u hu
    · exact a3.2.1 j (by omega) u hu
  · have e : ∀ x, w5.1 16 0 x = (wI w1 16 0 (R i * 6 + wh R i) (nI (ch P R i))).1 16 0 x := fun x => by
      show (wI w4 4 0 4 _).1 16 0 x = _
      rw [jw1, if_neg (by omega)]
      show (wI w3 14 0 (R i) _).1 16 0 x = _
      rw [jw1, if_neg (by omega)]
      show (wI w2 4 0 3 _).1 16 0 x = _
      rw [jw1, if_neg (by omega)]
    rw [e, jw1]
    by_cases e2 : j = i
    · rw [e2, if_pos ⟨rfl, rfl, rfl⟩]
    · have hRj := hV.2.1 j (by omega)
      have hwj := VR_wh hV (show j < n by omega)
      have hLj := (hW (R j) hRj).1
      rw [if_neg (fun z => e2 (by
        have h9 := z.2.2
        have h10 : R j = R i ∧ wh R j = wh R i := by omega
        exact wh_inj h10.1 h10.2))]
      exact a3.2.2.1 j (by omega)
  · show (wI w4 4 0 4 _).1 4 0 3 = _
    rw [jw1, if_neg (by omega)]
    show (wI w3 14 0 (R i) _).1 4 0 3 = _
    rw [jw1, if_neg (by omega)]
    show (wI w2 4 0 3 _).1 4 0 3 = _
    rw [jw1, if_pos ⟨rfl, rfl, rfl⟩]
  · show (wI w4 4 0 4 _).1 4 0 4 = _
    rw [jw1, if_pos ⟨rfl, rfl, rfl⟩]
theorem v_lookR_lp (hW : WP L P) (hV : VR L P n R) {k : Nat} : ∀ (m i : Nat) (w : Wd), m + i = n → RP w 0 L P → RR w k n R → LO w P R i →
    ∃ w', x_X4_lookAt 20 [] [some (zr 4 0), some (zr 2 0), some (zr 3 k), some (zi (nI i))] w = some w' ∧ Fr SO w w' ∧ LO w' P R n := by
  have hn := hV.1
  intro m
  induction m with
  | zero =>
    intro i w hm hRP hRR hL
    refine ⟨w, ?_, Fr.rf, by rw [show n = i by omega]; exact hL⟩
    rw [e_X4_lookAt_20, RR_len hRR]
    simp (disch := omega) only [joc, jle]
    rw [if_pos (by omega)]
  | succ m ih =>
    intro i w hm hRP hRR hL
    have hi : i < n := by omega
    obtain ⟨w1, a1, a2, a3⟩ := v_addStep hW hV hi hRP hL
    have f3 : SO 3 k = false := by unfold SO S2 S1; rfl
    have f13 : SO 13 k = false := by unfold SO S2 S1; rfl
    obtain ⟨w', h1, h2, h3⟩ := ih (i + 1) w1 (by omega) (a2.RP rfl rfl hRP) ⟨by rw [(a2 3 k f3).1]; exact hRR.1, fun j hj => by rw [(a2 13 k f13).1]; exact hRR.2 j hj⟩ a3
    refine ⟨w', ?_, a2.tr h2, h3⟩
    rw [← h1, e_X4_lookAt_20, RR_len hRR]
    simp (disch := omega) only [joc, jle, RR_at hRR hn hi, a1, jl, nI_add]
    rw [if_neg (by omega)]
theorem v_lookR (hW : WP L P) (hV : VR L P n R) {k : Nat} {w : Wd} (hRP : RP w 0 L P) (hRR : RR w k n R) : ∃ w', f_X4_lookAt 0 0 k w = some w' ∧ Fr SO w w' ∧ LO w' P R n := by
  obtain ⟨w1, a1, a2, a3⟩ := v_fill_I (k := 0) (len := 4) rfl (nI 0) w
  have f2 : Fr SO w1 (wI (wI w1 4 0 3 (nI 0)) 4 0 4 (nI 0)) := (Fr.rf.wI (by decide)).wI (by decide)
  have f12 : Fr SO w (wI (wI w1 4 0 3 (nI 0)) 4 0 4 (nI 0)) := (a2.mono fun t i h => S2_l (S2_l h)).tr f2
  have f3 : SO 3 k = false := by unfold SO S2 S1; rfl
  have f13 : SO 13 k = false := by unfold SO S2 S1; rfl
  obtain ⟨w', h1, h2, h3⟩ := v_lookR_lp hW hV n 0 _ rfl (f12.RP rfl rfl hRP) (k := k) ⟨by rw [(f12 3 k f3).1]; exact hRR.1, fun j hj => by rw [(f12 13 k f13).1]; exact hRR.2 j hj⟩ ⟨fun t ht => by
    rw [jw1, if_neg (by omega), jw1, if_neg (by omega)]
    exact a3 t ht, fun j hj => by omega, fun j hj => by omega, by
    rw [jw1, if_neg (by omega), jw1, if_pos ⟨rfl, rfl, rfl⟩]
    rfl, by
    rw [jw1, if_pos ⟨rfl, rfl, rfl⟩]
    rfl⟩
  refine ⟨w', ?_, f12.tr h2, h3⟩
  rw [← h1, e_X4_lookAt]
  simp only [jl, a1, joc]
end O8
