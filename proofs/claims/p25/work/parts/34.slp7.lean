/-! SLEEP SETS: the reference, layer by layer. -/
section S7
variable {L : Nat → Nat} {P : Nat → Nat → Nat}
theorem tb1 (r u : Nat) : (r / 2 ^ u % 2 = 1) = (r.testBit u = true) := by
  rw [Nat.testBit_eq_decide_div_mod_eq]
  simp
theorem tb0 (r u : Nat) : (r / 2 ^ u % 2 = 0) = (r.testBit u = false) := by
  rw [Nat.testBit_eq_decide_div_mod_eq]
  simp
/-- the reference's count of what is come to: this layer and the next -/
def TM (w : Wd) (l : Nat) (A : Nat → Nat → Nat) : Prop := ∀ a q, a < 343 → q < 16 → w.2 34 0 (16 * a + q) = lN (A (343 * l + a) q) ∧ w.2 35 0 (16 * a + q) = lN (A (343 * (l + 1) + a) q)
def ST : Nat → Nat → Bool := S2 (S1 34 0) (S1 35 0)
theorem d7_top {l a : Nat} (hl : l < 7) (ha : a < 343) : d7 (343 * l + a) 0 = l := by
  rw [d7_0]; omega
theorem at_next {l a t : Nat} (hl : l < 7) (ha : a < 343) (ht : t < 4) (h0 : t ≠ 0) (hd : d7 (343 * l + a) t < 6) : a + g7 t < 343 := by
  rcases four ht with rfl | rfl | rfl | rfl
  · exact absurd rfl h0
  · rw [d7_1] at hd; rw [g7_1]; omega
  · rw [d7_2] at hd; rw [g7_2]; omega
  · rw [d7_3, Nat.div_one] at hd; rw [g7_3]; omega
def SMi : Nat → Nat → Bool := S2 ST (S1 8 0)
def UE (w : Wd) (E C : Nat) : Prop := w.2 8 0 12 = lN E ∧ w.2 8 0 13 = lN C
/-- nothing has come beyond the next layer -/
def ZB (l : Nat) (A : Nat → Nat → Nat) : Prop := ∀ x y, 343 * (l + 2) ≤ x → A x y = 0
theorem ZB_P {l n q : Nat} (hn : n < 343 * (l + 1)) {A : Nat → Nat → Nat} (h : ZB l A) : ∀ t, ZB l (aP L P n q t A)
  | 0 => h
  | t + 1 => fun x y hx => by
    have := (g7_pos t).2
    rw [aP]
    unfold aT
    rw [if_neg (by omega)]
    exact ZB_P hn h t x y hx
theorem ZB_S {l n : Nat} (hn : n < 343 * (l + 1)) {S : (Nat → Nat → Nat) × Nat × Nat} (h : ZB l S.1) : ∀ q, ZB l (aS L P n q S).1
  | 0 => h
  | q + 1 => ZB_P hn (ZB_S hn h q) 4
theorem ZB_R (l : Nat) : ∀ n, n ≤ 343 * (l + 1) → ZB l (aR L P n).1.1
  | 0, _ => fun x y hx => by
    show (if x = 0 ∧ y = 0 then 1 else 0) = 0
    rw [if_neg (by omega)]
  | n + 1, hn => ZB_S (by omega) (ZB_R l n (by omega)) 16
def SMs : Nat → Nat → Bool := S2 S32 SMi
theorem nI64 {n : Nat} (h : n < 2147483648) : (nI n).toInt64 = lN n := by
  apply Int64.toInt_inj.mp
  rw [Int32.toInt_toInt64, nI_toInt h, lN_toInt (by omega)]
end S7
