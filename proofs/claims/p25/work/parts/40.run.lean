/-! RUNS: whether they can go, in both. -/
section RN
def dn (R : Nat → Nat) (t : Nat) : Nat → Nat
  | 0 => 0
  | i + 1 => dn R t i + if R i = t then 1 else 0
def wh (R : Nat → Nat) (i : Nat) : Nat := dn R (R i) i
def sd (R : Nat → Nat) (i : Nat) : Nat → Nat := fun u => dn R u i
/-- whether the first steps of a run can go -/
def vb (L : Nat → Nat) (P : Nat → Nat → Nat) (R : Nat → Nat) : Nat → Bool
  | 0 => true
  | i + 1 => vb L P R i && goS L P (sd R i) (R i)
def stN (fg : Nat → Nat) (R : Nat → Nat) : Nat → Nat
  | 0 => 0
  | i + 1 => stN fg R i + fg (R i)
variable {L : Nat → Nat} {P : Nat → Nat → Nat} {R : Nat → Nat}
theorem vb_le {i j : Nat} (h : vb L P R j = true) (hij : i ≤ j) : vb L P R i = true := by
  induction hij with
  | refl => exact h
  | step _ ih => exact ih ((Bool.and_eq_true _ _).mp h).1
theorem vb_go {i j : Nat} (h : vb L P R j = true) (hij : i < j) : goS L P (sd R i) (R i) = true := ((Bool.and_eq_true _ _).mp (vb_le h (show i + 1 ≤ j from hij))).2
theorem vb_no {i j : Nat} (h : goS L P (sd R i) (R i) = false) (hij : i < j) : vb L P R j = false := by
  cases hv : vb L P R j with
  | false => rfl
  | true => rw [vb_go hv hij] at h; cases h
theorem dn_le {t i j : Nat} (h : i ≤ j) : dn R t i ≤ dn R t j := by
  induction h with
  | refl => exact Nat.le_refl _
  | step _ ih => exact Nat.le_trans ih (Nat.le_add_right _ _)
theorem dn_big {n : Nat} (hR : ∀ i, i < n → R i < 4) {u : Nat} (hu : 4 ≤ u) : ∀ i, i ≤ n → dn R u i = 0
  | 0, _ => rfl
  | i + 1, h => by
    have h1 := hR i (by omega)
    rw [dn, dn_big hR hu i (by omega), if_neg (by omega)]
/-- a run's stands, in both numberings -/
theorem st_all (hW : WP L P) {n : Nat} (hR : ∀ i, i < n → R i < 4) (hv : vb L P R n = true) : ∀ i, i ≤ n → stN g7 R i < 2401 ∧ d7 (stN g7 R i) = sd R i ∧ W7 L P (stN g7 R i) ≠ 0 ∧ eN (stN g7 R i) = stN g8 R i
  | 0, _ => ⟨(by decide : 0 < 2401), by
    funext u
    show d7 0 u = 0
    unfold d7
    split <;> simp, by unfold W7 stN; rw [zW_0]; decide, by show eN 0 = 0; rfl⟩
  | i + 1, hi => by
    obtain ⟨h1, h2, h3, h4⟩ := st_all hW hR hv i (by omega)
    have ht := hR i (by omega)
    have hg := vb_go hv (show i < n by omega)
    have hg7 : go7 L P (stN g7 R i) (R i) = true := by
      unfold go7
      rw [h2]
      exact hg
    obtain ⟨s1, s2, s3, s4⟩ := go7_st hW h1 h3 ht hg7
    have hlt := goS_lt hg7
    have hL := (hW (R i) ht).1
    refine ⟨s1, ?_, s2, by rw [stN, s4, h4]; rfl⟩
    funext u
    by_cases hu : u < 4
    · have := (ds7.2.2.2 _ (R i) h1 ht (by omega)).2 u hu
      show d7 (stN g7 R i + g7 (R i)) u = _
      rw [this, h2]
      show dn R u i + _ = dn R u i + _
      congr 1
      by_cases e : u = R i
      · rw [if_pos e, if_pos e.symm]
      · rw [if_neg e, if_neg (fun z => e z.symm)]
    · show _ = dn R u (i + 1)
      rw [dn_big hR (by omega) (i + 1) hi]
      unfold d7
      rw [if_neg hu]
theorem RR_len {w : Wd} {k n : Nat} (hR : RR w k n R) : f_X3_length k w = some (nI n, w) := by rw [e_X3_length, hR.1]
theorem RR_at {w : Wd} {k n i : Nat} (hR : RR w k n R) (hn : n ≤ 24) (hi : i < n) : f_X3_threadAt k (nI i) w = some (nI (R i), w) := by
  rw [e_X3_threadAt, hR.1]
  simp (disch := omega) only [jlt0, ↓reduceIte, jle, jchk, jcl, hR.2 i hi]
  rw [if_neg (by omega)]
theorem v_canRun_lp (hW : WP L P) {w : Wd} (hX : SPX w L P) {k n : Nat} (hn : n ≤ 24) (hRR : RR w k n R) (hR : ∀ i, i < n → R i < 4) : ∀ (m i : Nat), m + i = n → vb L P R i = true →
    x_X5_canRun 4 [] [some (zr 5 0), some (zr 3 k), some (zi (nI (stN g8 R i))), some (zi (nI i))] w = some (nI (if vb L P R n = true then 1 else 0), w) := by
  intro m
  induction m with
  | zero =>
    intro i hm hv
    rw [e_X5_canRun_4, RR_len hRR]
    simp (disch := omega) only [joc, jle, jl, jzb1]
    rw [if_pos (by omega), show n = i by omega, hv]
    rfl
  | succ m ih =>
    intro i hm hv
    have hi : i < n := by omega
    have ht := hR i hi
    obtain ⟨h1, h2, h3, h4⟩ := st_all hW (fun j hj => hR j (by omega)) hv i (Nat.le_refl _)
    have hE := eN_lt40 h1
    have hgo := hX.2.2.2.1 _ hE
    rw [gG, W_eN hW _ h1, if_neg h3, eN_dig h1, h2, h4] at hgo
    rw [h4] at hE
    have hg16 := msk_lt (goS L P (sd R i))
    rw [e_X5_canRun_4, RR_len hRR]
    simp (disch := omega) only [joc, jle, jl, RR_at hRR hn hi, jchk, jcl, hgo, v_isIn, msk_bit _ ht, j01, jzb0, v_standAfter hE ht, nI_add]
    rw [if_neg (by omega)]
    cases hg : goS L P (sd R i) (R i) with
    | false =>
      rw [if_pos rfl, vb_no hg hi]
      rfl
    | true =>
      rw [if_neg (by decide)]
      have hv' : vb L P R (i + 1) = true := by rw [vb, hv, hg]; rfl
      obtain ⟨s1, -, -, s4⟩ := st_all hW (fun j hj => hR j (by omega)) hv' (i + 1) (Nat.le_refl _)
      have hE2 := eN_lt40 s1
      rw [s4] at hE2
      rw [show (stN g8 R i + 2 ^ (9 - 3 * R i)) % 4096 = stN g8 R (i + 1) from Nat.mod_eq_of_lt hE2]
      exact ih (i + 1) (by omega) hv'
theorem v_canRun (hW : WP L P) {w : Wd} (hX : SPX w L P) {k n : Nat} (hn : n ≤ 24) (hRR : RR w k n R) (hR : ∀ i, i < n → R i < 4) : f_X5_canRun 0 k w = some (nI (if vb L P R n = true then 1 else 0), w) := by
  rw [e_X5_canRun]
  exact v_canRun_lp hW hX hn hRR hR n 0 rfl rfl
def S38 : Nat → Nat → Bool := S1 38 0
def SGo : Nat → Nat → Bool := S2 S32 S38
def S37 : Nat → Nat → Bool := S1 37 0
def STk : Nat → Nat → Bool := S2 SGo (S2 S37 (S1 8 0))
end RN
