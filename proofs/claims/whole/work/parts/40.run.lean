/-! RUNS: whether they can go, in both. -/
section RN
def dn (R : Nat → Nat) (t : Nat) : Nat → Nat
  | 0 => 0
  | i + 1 => dn R t i + if R i = t then 1 else 0
def wh (R : Nat → Nat) (i : Nat) : Nat := dn R (R i) i
def sd (R : Nat → Nat) (i : Nat) : Nat → Nat := fun u => dn R u i
/-- whether the first steps of a run can go -/
def vb (L : Nat → Nat) (P : Nat → Nat → Nat) (R : Nat → Nat) : Nat → Bool
  | 0 => true
  | i + 1 => vb L P R i && goS L P (sd R i) (R i)
def stN (fg : Nat → Nat) (R : Nat → Nat) : Nat → Nat
  | 0 => 0
  | i + 1 => stN fg R i + fg (R i)
variable {L : Nat → Nat} {P : Nat → Nat → Nat} {R : Nat → Nat}
theorem vb_le {i j : Nat} (h : vb L P R j = true) (hij : i ≤ j) : vb L P R i = true := by
  induction hij with
  | refl => exact h
  | step _ ih => exact ih ((Bool.and_eq_true _ _).mp h).1
theorem vb_go {i j : Nat} (h : vb L P R j = true) (hij : i < j) : goS L P (sd R i) (R i) = true := ((Bool.and_eq_true _ _).mp (vb_le h (show i + 1 ≤ j from hij))).2
theorem vb_no {i j : Nat} (h : goS L P (sd R i) (R i) = false) (hij : i < j) : vb L P R j = false := by
  cases hv : vb L P R j with
  | false => rfl
  | true => rw [vb_go hv hij] at h; cases h
theorem dn_le {t i j : Nat} (h : i ≤ j) : dn R t i ≤ dn R t j := by
  induction h with
  | refl => exact Nat.le_refl _
  | step _ ih => exact Nat.le_trans ih (Nat.le_add_right _ _)
theorem dn_big {n : Nat} (hR : ∀ i, i < n → R i < 4) {u : Nat} (hu : 4 ≤ u) : ∀ i, i ≤ n → dn R u i = 0
  | 0, _ => rfl
  | i + 1, h => by
    have h1 := hR i (by omega)
    rw [dn, dn_big hR hu i (by omega), if_neg (by omega)]
/-- a run's stands, in both numberings -/
theorem st_all (hW : WP L P) {n : Nat} (hR : ∀ i, i < n → R i < 4) (hv : vb L P R n = true) : ∀ i, i ≤ n → stN g7 R i < 2401 ∧ d7 (stN g7 R i) = sd R i ∧ W7 L P (stN g7 R i) ≠ 0 ∧ eN (stN g7 R i) = stN g8 R i
  | 0, _ => ⟨(by decide : 0 < 2401), by
    funext u
    show d7 0 u = 0
    unfold d7
    split <;> simp, by unfold W7 stN; rw [zW_0]; decide, by show eN 0 = 0; rfl⟩
  | i + 1, hi => by
    obtain ⟨h1, h2, h3, h4⟩ := st_all hW hR hv i (by omega)
    have ht := hR i (by omega)
    have hg := vb_go hv (show i < n by omega)
    have hg7 : go7 L P (stN g7 R i) (R i) = true := by
      unfold go7
      rw [h2]
      exact hg
    obtain ⟨s1, s2, s3, s4⟩ := go7_st hW h1 h3 ht hg7
    have hlt := goS_lt hg7
    have hL := (hW (R i) ht).1
    refine ⟨s1, ?_, s2, by rw [stN, s4, h4]; rfl⟩
    funext u
    by_cases hu : u < 4
    · have := (ds7.2.2.2 _ (R i) h1 ht (by omega)).2 u hu
      show d7 (stN g7 R i + g7 (R i)) u = _
      rw [this, h2]
      show dn R u i + _ = dn R u i + _
      congr 1
      by_cases e : u = R i
      · rw [if_pos e, if_pos e.symm]
      · rw [if_neg e, if_neg (fun z => e z.symm)]
    · show _ = dn R u (i + 1)
      rw [dn_big hR (by omega) (i + 1) hi]
      unfold d7
      rw [if_neg hu]
theorem RR_len {w : Wd} {k n : Nat} (hR : RR w k n R) : f_X3_length k w = some (nI n, w) := by rw [e_X3_length, hR.1]
theorem RR_at {w : Wd} {k n i : Nat} (hR : RR w k n R) (hn : n ≤ 24) (hi : i < n) : f_X3_threadAt k (nI i) w = some (nI (R i), w) := by
  rw [e_X3_threadAt, hR.1]
  simp (disch := omega) only [jlt0, ↓reduceIte, jle, jchk, jcl, hR.2 i hi]
  rw [if_neg (by omega)]
theorem v_canRun_lp (hW : WP L P) {w : Wd} (hX : SPX w L P) {k n : Nat} (hn : n ≤ 24) (hRR : RR w k n R) (hR : ∀ i, i < n → R i < 4) : ∀ (m i : Nat), m + i = n → vb L P R i = true →
    x_X5_canRun 4 [] [some (zr 5 0), some (zr 3 k), some (zi (nI (stN g8 R i))), some (zi (nI i))] w = some (nI (if vb L P R n = true then 1 else 0), w) := by
  intro m
  induction m with
  | zero =>
    intro i hm hv
    rw [e_X5_canRun_4, RR_len hRR]
    simp (disch := omega) only [joc, jle, jl, jzb1]
    rw [if_pos (by omega), show n = i by omega, hv]
    rfl
  | succ m ih =>
    intro i hm hv
    have hi : i < n := by omega
    have ht := hR i hi
    obtain ⟨h1, h2, h3, h4⟩ := st_all hW (fun j hj => hR j (by omega)) hv i (Nat.le_refl _)
    have hE := eN_lt40 h1
    have hgo := hX.2.2.2.1 _ hE
    rw [gG, W_eN hW _ h1, if_neg h3, eN_dig h1, h2, h4] at hgo
    rw [h4] at hE
    have hg16 := msk_lt (goS L P (sd R i))
    rw [e_X5_canRun_4, RR_len hRR]
    simp (disch := omega) only [joc, jle, jl, RR_at hRR hn hi, jchk, jcl, hgo, v_isIn, msk_bit _ ht, j01, jzb0, v_standAfter hE ht, nI_add]
    rw [if_neg (by omega)]
    cases hg : goS L P (sd R i) (R i) with
    | false =>
      rw [if_pos rfl, vb_no hg hi]
      rfl
    | true =>
      rw [if_neg (by decide)]
      have hv' : vb L P R (i + 1) = true := by rw [vb, hv, hg]; rfl
      obtain ⟨s1, -, -, s4⟩ := st_all hW (fun j hj => hR j (by omega)) hv' (i + 1) (Nat.le_refl _)
      have hE2 := eN_lt40 s1
      rw [s4] at hE2
      rw [show (stN g8 R i + 2 ^ (9 - 3 * R i)) % 4096 = stN g8 R (i + 1) from Nat.mod_eq_of_lt hE2]
      exact ih (i + 1) (by omega) hv'
theorem v_canRun (hW : WP L P) {w : Wd} (hX : SPX w L P) {k n : Nat} (hn : n ≤ 24) (hRR : RR w k n R) (hR : ∀ i, i < n → R i < 4) : f_X5_canRun 0 k w = some (nI (if vb L P R n = true then 1 else 0), w) := by
  rw [e_X5_canRun]
  exact v_canRun_lp hW hX hn hRR hR n 0 rfl rfl
/-- a run in the reference's rows -/
def RM (w : Wd) (n : Nat) (R : Nat → Nat) : Prop := w.1 8 0 18 = nI n ∧ ∀ i, i < n → w.1 37 0 i = nI (R i)
def WM (w : Wd) (n : Nat) (R : Nat → Nat) : Prop := ∀ i, i < n → w.1 38 0 i = nI (wh R i)
def S38 : Nat → Nat → Bool := S1 38 0
theorem u_goes_lp (hW : WP L P) {n : Nat} (hn : n ≤ 24) (hR : ∀ i, i < n → R i < 4) : ∀ (m i : Nat) (w : Wd), m + i = n → vb L P R i = true → RQ w 0 0 L P → HH w L P → RM w n R → WM w i R →
    ∃ w', x_X8_goesAll 8 [] [some (zr 8 0), some (zi (nI (stN g7 R i))), some (zi (nI i))] w = some (nI (if vb L P R n = true then 1 else 0), w') ∧ Fr S38 w w' ∧ (vb L P R n = true → WM w' n R) := by
  intro m
  induction m with
  | zero =>
    intro i w hm hv hRQ hH hRM hWM
    refine ⟨w, ?_, Fr.rf, fun _ => by rw [show n = i by omega]; exact hWM⟩
    rw [e_X8_goesAll_8, hRM.1]
    simp (disch := omega) only [jle, jl, jzb1]
    rw [if_pos (by omega), show n = i by omega, hv]
    rfl
  | succ m ih =>
    intro i w hm hv hRQ hH hRM hWM
    have hi : i < n := by omega
    have ht := hR i hi
    obtain ⟨h1, h2, h3, h4⟩ := st_all hW (fun j hj => hR j (by omega)) hv i (Nat.le_refl _)
    have hcan := u_canGo hRQ hW hH (n := stN g7 R i) (by omega) ht (ds_reach ds7 hW _ h1 h3) 0
    rw [h2] at hcan
    have hRi := hRM.2 i hi
    rw [e_X8_goesAll_8, hRM.1]
    simp (disch := omega) only [jle, jl, jchk, jcl, hRi, hcan, joc, j01, jzb0, u_done, h2, nI_add]
    rw [if_neg (by omega)]
    cases hg : goS L P (sd R i) (R i) with
    | false =>
      rw [if_pos rfl, vb_no hg hi]
      exact ⟨w, rfl, Fr.rf, fun h => by cases h⟩
    | true =>
      rw [if_neg (by decide)]
      have hv' : vb L P R (i + 1) = true := by rw [vb, hv, hg]; rfl
      have f1 : Fr S38 w (wI w 38 0 i (nI (sd R i (R i)))) := Fr.rf.wI (by decide)
      have e37 : (wI w 38 0 i (nI (sd R i (R i)))).1 37 0 i = nI (R i) := by rw [(f1 37 0 rfl).1, hRi]
      rw [e37, u_figure ht, joc]
      obtain ⟨w', a1, a2, a3⟩ := ih (i + 1) (wI w 38 0 i (nI (sd R i (R i)))) (by omega) hv' (f1.RQ rfl hRQ) (HH_fr f1 rfl hH) ⟨by rw [(f1 8 0 rfl).1]; exact hRM.1, fun j hj => by rw [(f1 37 0 rfl).1]; exact hRM.2 j hj⟩ (fun j hj => by
        rw [jw1]
        by_cases e : j = i
        · rw [if_pos ⟨rfl, rfl, e⟩, e]
          rfl
        · rw [if_neg (fun z => e z.2.2)]
          exact hWM j (by omega))
      refine ⟨w', ?_, f1.tr a2, a3⟩
      rw [← a1, nI_add]
      rfl
def SGo : Nat → Nat → Bool := S2 S32 S38
theorem u_goesAll (hW : WP L P) {n : Nat} (hn : n ≤ 24) (hR : ∀ i, i < n → R i < 4) {w : Wd} (hRQ : RQ w 0 0 L P) (hRM : RM w n R) :
    ∃ w', f_X8_goesAll 0 w = some (nI (if vb L P R n = true then 1 else 0), w') ∧ Fr SGo w w' ∧ (vb L P R n = true → WM w' n R) := by
  obtain ⟨w1, a1, a2, a3⟩ := u_laysHeld hW hRQ 0
  obtain ⟨w', h1, h2, h3⟩ := u_goes_lp hW hn hR n 0 w1 rfl rfl (a2.RQ rfl hRQ) a3 ⟨by rw [(a2 8 0 rfl).1]; exact hRM.1, fun j hj => by rw [(a2 37 0 rfl).1]; exact hRM.2 j hj⟩ (fun j hj => by omega)
  refine ⟨w', ?_, (a2.mono fun t i h => S2_l h).tr (h2.mono fun t i h => S2_r h), h3⟩
  rw [e_X8_goesAll, a1, joc, ← h1]
  simp only [jl]
  rfl
/-- the kept run of the reference's state -/
def KQ (w : Wd) (n : Nat) (R : Nat → Nat) : Prop := w.1 30 0 28 = nI n ∧ ∀ i, i < n → w.1 30 0 (29 + i) = nI (R i)
def S37 : Nat → Nat → Bool := S1 37 0
theorem u_kept_lp {n : Nat} (hn : n ≤ 24) : ∀ (m i : Nat) (w : Wd), m + i = n → KQ w n R → w.1 8 0 18 = nI n → (∀ j, j < i → w.1 37 0 j = nI (R j)) →
    ∃ w', x_X8_takesKept 13 [] [some (zr 8 0), some (zi (nI i))] w = x_X8_takesKept 13 [] [some (zr 8 0), some (zi (nI n))] w' ∧ Fr S37 w w' ∧ RM w' n R := by
  intro m
  induction m with
  | zero =>
    intro i w hm hK h18 h37
    have : i = n := by omega
    subst this
    exact ⟨w, rfl, Fr.rf, h18, h37⟩
  | succ m ih =>
    intro i w hm hK h18 h37
    have hKi := hK.2 i (by omega)
    have f1 : Fr S37 w (wI w 37 0 i (nI (R i))) := Fr.rf.wI (by decide)
    obtain ⟨w', h1, h2, h3⟩ := ih (i + 1) (wI w 37 0 i (nI (R i))) (by omega) ⟨by rw [(f1 30 0 rfl).1]; exact hK.1, fun j hj => by rw [(f1 30 0 rfl).1]; exact hK.2 j hj⟩ (by rw [(f1 8 0 rfl).1]; exact h18) (fun j hj => by
      rw [jw1]
      by_cases e : j = i
      · rw [if_pos ⟨rfl, rfl, e⟩, e]
      · rw [if_neg (fun z => e z.2.2)]
        exact h37 j (by omega))
    refine ⟨w', ?_, f1.tr h2, h3⟩
    rw [← h1, e_X8_takesKept_13, h18]
    simp (disch := omega) only [jl, jle, nI_add, jchk, jcl, hKi]
    rw [if_neg (by omega)]
def STk : Nat → Nat → Bool := S2 SGo (S2 S37 (S1 8 0))
def S18 (w w' : Wd) : Prop := (∀ j, j ≠ 18 → w'.1 8 0 j = w.1 8 0 j) ∧ w'.2 8 0 = w.2 8 0
theorem u_takesKept (hW : WP L P) {n : Nat} (hn : n ≤ 24) (hR : ∀ i, i < n → R i < 4) {w : Wd} (hRQ : RQ w 0 0 L P) (hK : KQ w n R) (hv : vb L P R n = true) :
    ∃ w', f_X8_takesKept 0 w = some w' ∧ Fr STk w w' ∧ S18 w w' ∧ RM w' n R ∧ WM w' n R := by
  have f0 : Fr (S1 8 0) w (wI w 8 0 18 (nI n)) := Fr.rf.wI (by decide)
  obtain ⟨w1, a1, a2, a3⟩ := u_kept_lp (R := R) hn n 0 (wI w 8 0 18 (nI n)) rfl ⟨by rw [(f0 30 0 rfl).1]; exact hK.1, fun j hj => by rw [(f0 30 0 rfl).1]; exact hK.2 j hj⟩ (by rw [jw1, if_pos ⟨rfl, rfl, rfl⟩]) (fun j hj => by omega)
  obtain ⟨w2, b1, b2, b3⟩ := u_goesAll hW hn hR (a2.RQ rfl (f0.RQ rfl hRQ)) a3
  have f3 : Fr (S1 8 0) w2 (wI w2 8 0 18 (nI n)) := Fr.rf.wI (by decide)
  have e2 : w2.1 8 0 18 = nI n := by rw [(b2 8 0 rfl).1]; exact a3.1
  refine ⟨wI w2 8 0 18 (nI n), ?_, ?_, ⟨fun j hj => ?_, ?_⟩, ⟨by rw [jw1, if_pos ⟨rfl, rfl, rfl⟩], fun j hj => ?_⟩, fun j hj => ?_⟩
  · rw [e_X8_takesKept]
    simp (disch := omega) only [jl, jchk, jcl, hK.1]
    rw [a1, e_X8_takesKept_13, a3.1, b1, hv]
    simp (disch := omega) only [jle, Nat.le_refl, ↓reduceIte, joc, jeq0, Nat.reduceEqDiff, e2]
  · exact (f0.mono fun t i h => S2_r (S2_r h)).tr ((a2.mono fun t i h => S2_l (S2_r h)).tr ((b2.mono fun t i h => S2_l h).tr (f3.mono fun t i h => S2_r (S2_r h))))
  · rw [jw1, if_neg (fun z => hj z.2.2), (b2 8 0 rfl).1, (a2 8 0 rfl).1, jw1, if_neg (fun z => hj z.2.2)]
  · rw [jw2, (b2 8 0 rfl).2, (a2 8 0 rfl).2]
    rfl
  · rw [(f3 37 0 rfl).1, (b2 37 0 rfl).1]
    exact a3.2 j hj
  · rw [(f3 38 0 rfl).1]
    exact b3 hv j hj
end RN
