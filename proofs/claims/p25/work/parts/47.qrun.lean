/-! THE KEPT RUN: least, chain, alikeRuns, lastWrite alike. -/
section QR
variable {L : Nat → Nat} {P : Nat → Nat → Nat} {R : Nat → Nat} {n : Nat}
theorem LR_lt (hV : VR L P n R) {i : Nat} (hi : i < n) : LR P R n i < 4 := (lp_all (P := P) hV.2.1 i (by omega)).2.2 hi
theorem jgeN {x : Int32} (h : x < 0) : ((0 : Int32) ≤ x) = False := eq_false (Int32.not_le.mpr h)
/-! the last write -/
def lw (P : Nat → Nat → Nat) (R : Nat → Nat) (v : Nat) : Nat → Option Nat
  | 0 => none
  | i + 1 => if cd P R i = 4 + v then some i else lw P R v i
def lwT (R : Nat → Nat) : Option Nat → Int32
  | none => Int32.ofInt (-6)
  | some j => nI (R j)
def lwS (R : Nat → Nat) : Option Nat → Int32
  | none => Int32.ofInt (-6)
  | some j => nI (wh R j)
theorem lw_lt {v : Nat} : ∀ i j, lw P R v i = some j → j < i
  | 0, j, h => by cases h
  | i + 1, j, h => by
    rw [lw] at h
    split at h
    · cases h; omega
    · have := lw_lt i j h; omega
theorem v_lw_lp (hW : WP L P) (hV : VR L P n R) {w : Wd} (hRP : RP w 0 L P) (hRR : RR w 0 n R) {v q : Nat} (hq : q < 2) (hv : v < 4) : ∀ (m i : Nat), m + i = n →
    x_X7_lastWrite 41 [] [some (zr 7 0), none, some (zi (nI q)), some (zi (nI (4 + v))), some (zi (lwT R (lw P R v i))), some (zi (lwS R (lw P R v i))), some (zi (nI (stN g8 R i))), some (zi (nI i)), none] w = some (if q = 0 then lwT R (lw P R v n) else lwS R (lw P R v n), w) := by
  have hn := hV.1
  intro m
  induction m with
  | zero =>
    intro i hm
    have : i = n := by omega
    subst this
    rw [e_X7_lastWrite_41, RR_len hRR]
    simp (disch := omega) only [joc, jle, Nat.le_refl, ↓reduceIte, jeq0]
    split <;> rfl
  | succ m ih =>
    intro i hm
    have hi : i < n := by omega
    have hRi := hV.2.1 i hi
    obtain ⟨s1, s2, s3, s4⟩ := st_all hW hV.2.1 hV.2.2 i (by omega)
    obtain ⟨t1, t2, t3, t4⟩ := st_all hW hV.2.1 hV.2.2 (i + 1) (by omega)
    have hE := eN_lt40 s1
    have hE1 := eN_lt40 t1
    have e8 : d8 (stN g8 R i) = sd R i := by rw [← s4, eN_dig s1, s2]
    rw [s4] at hE
    rw [t4] at hE1
    have hst : (stN g8 R i + 2 ^ (9 - 3 * R i)) % 4096 = stN g8 R (i + 1) := Nat.mod_eq_of_lt hE1
    have hwi := VR_wh hV hi
    have hcd := VR_cd hW hV hi
    have hsd : sd R i (R i) = wh R i := rfl
    have hsc : P (R i) (wh R i) = cd P R i := rfl
    rw [← ih (i + 1) (by omega), e_X7_lastWrite_41, RR_len hRR]
    simp (disch := omega) only [joc, jle, RR_at hRR hn hi, v_doneBy hE hRi, e8, hsd, v_stepOf hRP hW hRi hwi, hsc, jeq, v_standAfter hE hRi, hst, jl, nI_add]
    rw [if_neg (by omega), lw]
    by_cases h : cd P R i = 4 + v
    · rw [if_pos h, if_pos h]; rfl
    · rw [if_neg h, if_neg h]
end QR
