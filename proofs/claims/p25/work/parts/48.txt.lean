/-! TEXTS: put, wipe, fault. -/
section TX
theorem and255 (z : Int64) : z &&& (255 : Int64) = lN (z.toBitVec.toNat % 256) := by
  unfold lN
  apply Int64.toBitVec_inj.mp
  rw [Int64.toBitVec_and, Int64.toBitVec_ofNat']
  apply BitVec.eq_of_toNat_eq
  rw [BitVec.toNat_and, BitVec.toNat_ofNat, show (255 : Int64).toBitVec.toNat = 2 ^ 8 - 1 from rfl, Nat.and_two_pow_sub_one_eq_mod]
  have : z.toBitVec.toNat % 256 < 256 := Nat.mod_lt _ (by decide)
  omega
theorem lN32 : ∀ b : Nat, b < 256 → (lN b).toInt32 = nI b := by decide +kernel
/-- a number shifted, and its characters -/
def shl (y : Int64) (x : Int32) : Int64 := (y.toUInt64 >>> (((Int32.ofInt 8) * x).toInt64.toUInt64 &&& Int64.toUInt64 63)).toInt64
def bt (y : Int64) (n : Nat) : Nat := (shl y (nI n)).toBitVec.toNat % 256
theorem bt_lt (y : Int64) (n : Nat) : bt y n < 256 := Nat.mod_lt _ (by decide)
theorem v_signIn (y : Int64) (n : Nat) (w : Wd) : f_X1_signIn y (nI n) w = some (nI (bt y n), w) := by
  have h := bt_lt y n
  rw [e_X1_signIn]
  show some ((shl y (nI n) &&& (255 : Int64)).toInt32, w) = _
  rw [and255, lN32 _ (Nat.mod_lt _ (by decide))]
  rfl
/-- the pad of the class, of the reference -/
def PX (w : Wd) (p : Nat) (S : Nat → Nat) : Prop := w.1 1 0 1 = nI p ∧ ∀ i, i < p → w.1 10 0 i = nI (S i)
def SK (p : Nat) (S : Nat → Nat) : Prop := p ≤ 40 ∧ ∀ i, i < p → 33 ≤ S i ∧ S i ≤ 126
def SPd : Nat → Nat → Bool := S2 (S1 1 0) (S1 10 0)
def SPm : Nat → Nat → Bool := S2 (S1 8 0) (S1 31 0)
theorem v_app_lp (y : Int64) : ∀ (c q : Nat) (w : Wd), q + c ≤ 40 → w.1 1 0 1 = nI q →
    ∃ w', x_X1_append 5 [] [some (zr 1 0), some (zl y), none, none, some (zi (nI c + Int32.ofInt (-1)))] w = some w' ∧ Fr SPd w w' ∧ w'.1 1 0 1 = nI (q + c) ∧ (∀ i, i < q → w'.1 10 0 i = w.1 10 0 i) ∧ ∀ i, i < c → w'.1 10 0 (q + i) = nI (bt y (c - 1 - i)) := by
  intro c
  induction c with
  | zero =>
    intro q w hq h1
    refine ⟨w, ?_, Fr.rf, h1, fun _ _ => rfl, fun i hi => by omega⟩
    rw [e_X1_append_5, if_pos (by decide)]
  | succ c ih =>
    intro q w hq h1
    have hw : ∀ j, (wI (wI w 10 0 q (nI (bt y c))) 1 0 1 (nI (q + 1))).1 10 0 j = if j = q then nI (bt y c) else w.1 10 0 j := fun j => by
      rw [jw1, if_neg (by omega), jw1]
      by_cases e : j = q
      · rw [if_pos ⟨rfl, rfl, e⟩, if_pos e]
      · rw [if_neg (fun z => e z.2.2), if_neg e]
    obtain ⟨w', g1, g2, g3, g4, g5⟩ := ih (q + 1) (wI (wI w 10 0 q (nI (bt y c))) 1 0 1 (nI (q + 1))) (by omega) (by rw [jw1, if_pos ⟨rfl, rfl, rfl⟩])
    refine ⟨w', ?_, ((Fr.rf.wI (by decide)).wI (by decide)).tr g2, by rw [g3]; congr 1; omega, fun i hi => ?_, fun i hi => ?_⟩
    · rw [← g1, jpred, e_X1_append_5, h1]
      simp (disch := omega) only [jlt0, ↓reduceIte, jl, jle, v_signIn, joc, jchk, jcl]
      rw [if_neg (by omega), jw1, if_neg (by omega), h1, nI_add]
    · rw [g4 i (by omega), hw, if_neg (by omega)]
    · by_cases e : i = 0
      · rw [e, Nat.add_zero, g4 q (by omega), hw, if_pos rfl]
        congr 2
      · have := g5 (i - 1) (by omega)
        rw [show q + 1 + (i - 1) = q + i by omega, show c - 1 - (i - 1) = c + 1 - 1 - i by omega] at this
        exact this
end TX
