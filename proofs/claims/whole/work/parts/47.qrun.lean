/-! THE KEPT RUN: least, chain, alikeRuns, lastWrite alike. -/
section QR
variable {L : Nat → Nat} {P : Nat → Nat → Nat} {R : Nat → Nat} {n : Nat}
theorem q_chain (hW : WP L P) (hV : VR L P n R) {w : Wd} (hRP : RP w 0 L P) (hRR : RR w 0 n R) : ∃ v w', f_X7_chain 0 w = some (v, w') ∧ Fr SO w w' ∧ ∀ wm, RQ wm 0 0 L P → KQ wm n R → ∃ wm', f_X8_chain 0 wm = some (v, wm') ∧ Fr (S2 STk S39) wm wm' ∧ S18 wm wm' := by
  obtain ⟨w1, a1, a2, a3⟩ := v_lookR hW hV hRP hRR
  refine ⟨nI (mxA (ch P R) n), w1, ?_, a2, fun wm h1 h2 => u_chain hW hV h1 h2⟩
  rw [e_X7_chain, a1, joc, e_X4_longestChain, joc, a3.2.2.2.1]
theorem q_alikeRuns (hW : WP L P) (hV : VR L P n R) {w : Wd} (hRP : RP w 0 L P) (hRR : RR w 0 n R) : ∃ v w', f_X7_alikeRuns 0 w = some (v, w') ∧ Fr (S2 SO S170) w w' ∧ ∀ wm, RQ wm 0 0 L P → KQ wm n R → ∃ wm', f_X8_alikeRuns 0 wm = some (v, wm') ∧ Fr SAl wm wm' ∧ S18 wm wm' := by
  obtain ⟨w1, a1, a2, a3⟩ := v_lookR hW hV hRP hRR
  obtain ⟨w2, b1, b2⟩ := v_linear hW hV a3
  refine ⟨_, w2, ?_, (a2.mono fun t i h => S2_l h).tr (b2.mono fun t i h => S2_r h), fun wm h1 h2 => u_alikeRuns hW hV h1 h2⟩
  rw [e_X7_alikeRuns, a1, joc, b1, joc]
theorem LR_lt (hV : VR L P n R) {i : Nat} (hi : i < n) : LR P R n i < 4 := (lp_all (P := P) hV.2.1 i (by omega)).2.2 hi
/-- the reference's kept run and its least -/
theorem u_keptLeast (hW : WP L P) (hV : VR L P n R) {w : Wd} (hRQ : RQ w 0 0 L P) (hK : KQ w n R) : ∃ w1 w2, f_X8_takesKept 0 w = some w1 ∧ f_X8_laysLeast 0 w1 = some w2 ∧ Fr (S2 STk S3940) w w2 ∧ S18 w w2 ∧ w2.1 8 0 18 = nI n ∧ ∀ j, j < n → w2.1 39 0 j = nI (LR P R n j) := by
  obtain ⟨w1, a1, a2, a3, a4, a5⟩ := u_takesKept hW hV.1 hV.2.1 hRQ hK hV.2.2
  obtain ⟨w2, b1, b2, b3⟩ := u_laysLeast hW hV ⟨a2.RQ rfl hRQ, a4, a5⟩
  refine ⟨w1, w2, a1, b1, (a2.mono fun t i h => S2_l h).tr (b2.mono fun t i h => S2_r h), ⟨fun j hj => ?_, ?_⟩, ?_, b3⟩
  · rw [(b2 8 0 rfl).1]; exact a3.1 j hj
  · rw [(b2 8 0 rfl).2]; exact a3.2
  · rw [(b2 8 0 rfl).1]; exact a4.1
theorem jgeN {x : Int32} (h : x < 0) : ((0 : Int32) ≤ x) = False := eq_false (Int32.not_le.mpr h)
theorem q_least (hW : WP L P) (hV : VR L P n R) {w : Wd} (hRP : RP w 0 L P) (hRR : RR w 0 n R) (x : Int32) : ∃ v w', f_X7_least 0 x w = some (v, w') ∧ Fr (S2 SO (SRg 10)) w w' ∧ ∀ wm, RQ wm 0 0 L P → KQ wm n R → ∃ wm', f_X8_least 0 x wm = some (v, wm') ∧ Fr (S2 STk S3940) wm wm' ∧ S18 wm wm' := by
  have hn := hV.1
  rcases jnat x with hx | ⟨p, hp, rfl⟩
  · refine ⟨Int32.ofInt (-2), w, ?_, Fr.rf, fun wm h1 h2 => ⟨wm, ?_, Fr.rf, fun _ _ => rfl, rfl⟩⟩
    · rw [e_X7_least]
      simp only [jgeN hx, ↓reduceIte]
    · rw [e_X8_least]
      simp only [jgeN hx, ↓reduceIte]
  · obtain ⟨w1, a1, a2, a3⟩ := v_lookR hW hV hRP hRR
    obtain ⟨w2, b1, b2, b3⟩ := v_writeLeast hW hV (k := 10) a3
    refine ⟨if p < n then nI (LR P R n p) else Int32.ofInt (-6), w2, ?_, (a2.mono fun t i h => S2_l h).tr (b2.mono fun t i h => S2_r h), fun wm h1 h2 => ?_⟩
    · rw [e_X7_least]
      simp (disch := omega) only [jge0, ↓reduceIte, a1, b1, joc]
      by_cases hlt : p < n
      · rw [RR_at b3 hn hlt, joc, if_pos hlt]
      · rw [e_X3_threadAt, b3.1]
        simp (disch := omega) only [jlt0, ↓reduceIte, jle]
        rw [if_pos (by omega), joc, if_neg hlt]
    · obtain ⟨m1, m2, c1, c2, c3, c4, c5, c6⟩ := u_keptLeast hW hV h1 h2
      refine ⟨m2, ?_, c3, c4⟩
      rw [e_X8_least]
      simp (disch := omega) only [jge0, ↓reduceIte, c1, c2, joc, c5, jle]
      by_cases hlt : p < n
      · rw [if_neg (by omega), if_pos hlt]
        simp (disch := omega) only [jchk, jcl, c6 p hlt]
      · rw [if_pos (by omega), if_neg hlt]
/-! the last write -/
def lw (P : Nat → Nat → Nat) (R : Nat → Nat) (v : Nat) : Nat → Option Nat
  | 0 => none
  | i + 1 => if cd P R i = 4 + v then some i else lw P R v i
def lwT (R : Nat → Nat) : Option Nat → Int32
  | none => Int32.ofInt (-6)
  | some j => nI (R j)
def lwS (R : Nat → Nat) : Option Nat → Int32
  | none => Int32.ofInt (-6)
  | some j => nI (wh R j)
theorem lw_lt {v : Nat} : ∀ i j, lw P R v i = some j → j < i
  | 0, j, h => by cases h
  | i + 1, j, h => by
    rw [lw] at h
    split at h
    · cases h; omega
    · have := lw_lt i j h; omega
theorem v_lw_lp (hW : WP L P) (hV : VR L P n R) {w : Wd} (hRP : RP w 0 L P) (hRR : RR w 0 n R) {v q : Nat} (hq : q < 2) (hv : v < 4) : ∀ (m i : Nat), m + i = n →
    x_X7_lastWrite 41 [] [some (zr 7 0), none, some (zi (nI q)), some (zi (nI (4 + v))), some (zi (lwT R (lw P R v i))), some (zi (lwS R (lw P R v i))), some (zi (nI (stN g8 R i))), some (zi (nI i)), none] w = some (if q = 0 then lwT R (lw P R v n) else lwS R (lw P R v n), w) := by
  have hn := hV.1
  intro m
  induction m with
  | zero =>
    intro i hm
    have : i = n := by omega
    subst this
    rw [e_X7_lastWrite_41, RR_len hRR]
    simp (disch := omega) only [joc, jle, Nat.le_refl, ↓reduceIte, jeq0]
    split <;> rfl
  | succ m ih =>
    intro i hm
    have hi : i < n := by omega
    have hRi := hV.2.1 i hi
    obtain ⟨s1, s2, s3, s4⟩ := st_all hW hV.2.1 hV.2.2 i (by omega)
    obtain ⟨t1, t2, t3, t4⟩ := st_all hW hV.2.1 hV.2.2 (i + 1) (by omega)
    have hE := eN_lt40 s1
    have hE1 := eN_lt40 t1
    have e8 : d8 (stN g8 R i) = sd R i := by rw [← s4, eN_dig s1, s2]
    rw [s4] at hE
    rw [t4] at hE1
    have hst : (stN g8 R i + 2 ^ (9 - 3 * R i)) % 4096 = stN g8 R (i + 1) := Nat.mod_eq_of_lt hE1
    have hwi := VR_wh hV hi
    have hcd := VR_cd hW hV hi
    have hsd : sd R i (R i) = wh R i := rfl
    have hsc : P (R i) (wh R i) = cd P R i := rfl
    rw [← ih (i + 1) (by omega), e_X7_lastWrite_41, RR_len hRR]
    simp (disch := omega) only [joc, jle, RR_at hRR hn hi, v_doneBy hE hRi, e8, hsd, v_stepOf hRP hW hRi hwi, hsc, jeq, v_standAfter hE hRi, hst, jl, nI_add]
    rw [if_neg (by omega), lw]
    by_cases h : cd P R i = 4 + v
    · rw [if_pos h, if_pos h]; rfl
    · rw [if_neg h, if_neg h]
theorem u_lw_lp (hW : WP L P) (hV : VR L P n R) {w : Wd} (hU : RU w L P n R) {v q : Nat} (hq : q < 2) (hv : v < 4) : ∀ (m i : Nat), m + i = n →
    x_X8_lastWrite 33 [] [some (zr 8 0), some (zi (nI v)), some (zi (nI q)), some (zi (oI (lw P R v i))), some (zi (nI i))] w = some (if q = 0 then lwT R (lw P R v n) else lwS R (lw P R v n), w) := by
  have hn := hV.1
  intro m
  induction m with
  | zero =>
    intro i hm
    have : i = n := by omega
    subst this
    rw [e_X8_lastWrite_33, hU.2.1.1]
    simp (disch := omega) only [jle, Nat.le_refl, ↓reduceIte, jeq0]
    cases hl : lw P R v i with
    | none =>
      rw [show oI none = Int32.ofInt (-6) from rfl, if_pos rfl]
      split <;> rfl
    | some j =>
      have hj := lw_lt i j hl
      rw [show oI (some j) = nI j from rfl, if_neg (show ¬ nI j = Int32.ofInt (-6) by rw [jm6 (by omega)]; exact id)]
      simp (disch := omega) only [jchk, jcl, hU.2.1.2 j hj, hU.2.2 j hj]
      split <;> rfl
  | succ m ih =>
    intro i hm
    have hi : i < n := by omega
    have hRi := hV.2.1 i hi
    have hcd := VR_cd hW hV hi
    have hsc : P (R i) (wh R i) = cd P R i := rfl
    rw [← ih (i + 1) (by omega), e_X8_lastWrite_33, hU.2.1.1]
    simp (disch := omega) only [jle, jchk, jcl, hU.2.1.2 i hi, hU.2.2 i hi, u_step hU.1 hW hRi (VR_wh hV hi), joc, hsc, jl, nI_add, jeq]
    rw [if_neg (by omega), lw]
    by_cases h : cd P R i = 4 + v
    · rw [if_pos h, if_pos h]; rfl
    · rw [if_neg h, if_neg h]
theorem q_lastWrite (hW : WP L P) (hV : VR L P n R) {w : Wd} (hRP : RP w 0 L P) (hRR : RR w 0 n R) (x y : Int32) : ∃ v, f_X7_lastWrite 0 x y w = some (v, w) ∧ ∀ wm, RQ wm 0 0 L P → KQ wm n R → ∃ wm', f_X8_lastWrite 0 x y wm = some (v, wm') ∧ Fr STk wm wm' ∧ S18 wm wm' := by
  have hno : (x < 0 ∨ ∃ p, p < 2147483648 ∧ x = nI p ∧ 4 ≤ p) → ∃ v, f_X7_lastWrite 0 x y w = some (v, w) ∧ ∀ wm, RQ wm 0 0 L P → KQ wm n R → ∃ wm', f_X8_lastWrite 0 x y wm = some (v, wm') ∧ Fr STk wm wm' ∧ S18 wm wm' := fun h => by
    refine ⟨Int32.ofInt (-1), ?_, fun wm _ _ => ⟨wm, ?_, Fr.rf, fun _ _ => rfl, rfl⟩⟩
    · rw [e_X7_lastWrite]
      rcases h with h | ⟨p, hp, rfl, h4⟩
      · rw [v_isName_neg h, joc, if_pos (by rfl)]
      · rw [v_isName hp, joc, if_neg (show ¬ p < 4 by omega), if_pos (by rfl)]
    · rw [e_X8_lastWrite]
      simp only [jl]
      rcases h with h | ⟨p, hp, rfl, h4⟩
      · rw [u_in_neg h, joc, if_pos (by rfl)]
      · rw [u_in_n hp (by decide), joc, if_neg (show ¬ p ≤ 3 by omega), if_pos (by rfl)]
  rcases jnat x with hx | ⟨p, hp, rfl⟩
  · exact hno (Or.inl hx)
  · by_cases h4 : 4 ≤ p
    · exact hno (Or.inr ⟨p, hp, rfl, h4⟩)
    · have hc0 : f_X7_isName (nI p) w = some (nI 1, w) := by rw [v_isName hp, if_pos (show p < 4 by omega)]
      have hm0 : ∀ wm, f_X8_in (nI p) (nI 0) (nI 3) wm = some (nI 1, wm) := fun wm => by rw [u_in_n hp (by decide), if_pos (show p ≤ 3 by omega)]
      have bad : (y < 0 ∨ ∃ q, q < 2147483648 ∧ y = nI q ∧ 2 ≤ q) → ∃ v, f_X7_lastWrite 0 (nI p) y w = some (v, w) ∧ ∀ wm, RQ wm 0 0 L P → KQ wm n R → ∃ wm', f_X8_lastWrite 0 (nI p) y wm = some (v, wm') ∧ Fr STk wm wm' ∧ S18 wm wm' := fun h => by
        have hne : ∀ a, a < 2 → ¬ y = nI a := fun a ha e => by
          rcases h with h | ⟨q, hq, rfl, h3⟩
          · rw [e] at h
            exact nI_pos (show a < 2 ^ 31 by omega) h
          · have := nI_inj hq (by omega) e
            omega
        refine ⟨Int32.ofInt (-2), ?_, fun wm _ _ => ⟨wm, ?_, Fr.rf, fun _ _ => rfl, rfl⟩⟩
        · rw [e_X7_lastWrite, hc0, joc, if_neg (show ¬ nI 1 = (0 : Int32) by decide), if_neg (show ¬ y = (0 : Int32) from hne 0 (by decide))]
          simp only [jl]
          rw [if_neg (hne 1 (by decide))]
        · rw [e_X8_lastWrite]
          simp only [jl]
          rw [hm0, joc, if_neg (show ¬ nI 1 = (0 : Int32) by decide)]
          rcases h with h | ⟨q, hq, rfl, h3⟩
          · rw [u_in_neg h, joc, if_pos (by rfl)]
          · rw [u_in_n hq (by decide), joc, if_neg (show ¬ q ≤ 1 by omega), if_pos (by rfl)]
      rcases jnat y with hy | ⟨q, hq, rfl⟩
      · exact bad (Or.inl hy)
      · by_cases h2 : 2 ≤ q
        · exact bad (Or.inr ⟨q, hq, rfl, h2⟩)
        · refine ⟨if q = 0 then lwT R (lw P R p n) else lwS R (lw P R p n), ?_, fun wm h1 hK => ?_⟩
          · have h := v_lw_lp hW hV hRP hRR (v := p) (q := q) (by omega) (by omega) n 0 rfl
            rw [e_X7_lastWrite, hc0, joc, if_neg (show ¬ nI 1 = (0 : Int32) by decide), ← h]
            simp (disch := omega) only [jl, v_codeOf, joc, jeq0, jeq, Nat.mul_one]
            rcases (show q = 0 ∨ q = 1 by omega) with rfl | rfl
            · rw [if_pos rfl]; rfl
            · rw [if_neg (by decide), if_pos rfl]; rfl
          · obtain ⟨w1, a1, a2, a3, a4, a5⟩ := u_takesKept hW hV.1 hV.2.1 h1 hK hV.2.2
            have h := u_lw_lp hW hV (w := w1) ⟨a2.RQ rfl h1, a4, a5⟩ (v := p) (q := q) (by omega) (by omega) n 0 rfl
            refine ⟨w1, ?_, a2, a3⟩
            rw [e_X8_lastWrite]
            simp only [jl]
            rw [hm0, joc, if_neg (show ¬ nI 1 = (0 : Int32) by decide), u_in_n hq (by decide), joc, if_pos (show q ≤ 1 by omega), if_neg (show ¬ nI 1 = (0 : Int32) by decide), a1, joc, ← h]
            rfl
end QR
