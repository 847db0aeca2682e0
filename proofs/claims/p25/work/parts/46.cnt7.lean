/-! HOW MANY ORDERS: the reference. -/
section N7
variable {L : Nat → Nat} {P : Nat → Nat → Nat} {R : Nat → Nat} {n : Nat}
def cx (P : Nat → Nat → Nat) (R : Nat → Nat) (s : Nat → Nat) (k j : Nat) : Bool := decide (wh R k = s (R k)) && alT P R s k j
def WO7 (P : Nat → Nat → Nat) (R : Nat → Nat) (n : Nat) : Nat → Nat := zW g7 (fun i t => goM P R n (d7 i) t)
def S33 : Nat → Nat → Bool := S1 33 0
/-- what has come to a stand, while one is gone through by its steps -/
def oBd (P : Nat → Nat → Nat) (R : Nat → Nat) (n c k x : Nat) : Nat := zWp g7 (fun i t => goM P R n (d7 i) t) c 0 x + q4 fun t => if x = c + g7 t ∧ mgB P R (d7 c) t k = true then WO7 P R n c else 0
theorem oBd_0 (c x : Nat) : oBd P R n c 0 x = zWp g7 (fun i t => goM P R n (d7 i) t) c 0 x := by
  unfold oBd
  have : (q4 fun t => if x = c + g7 t ∧ mgB P R (d7 c) t 0 = true then WO7 P R n c else 0) = q4 fun _ => 0 := q4_congr fun t ht => if_neg (fun z => by cases z.2)
  rw [this]
  rfl
theorem oBd_n (c x : Nat) : oBd P R n c n x = zWp g7 (fun i t => goM P R n (d7 i) t) (c + 1) 0 x := by
  have st : ∀ t, t < 4 → zWp g7 (fun i t => goM P R n (d7 i) t) c (t + 1) x = zWp g7 (fun i t => goM P R n (d7 i) t) c t x + if x = c + g7 t ∧ goM P R n (d7 c) t = true then zW g7 (fun i t => goM P R n (d7 i) t) c else 0 := fun t ht => zWp_st ht (g7_pos t).1 x
  rw [← zWp_4, st 3 (by decide), st 2 (by decide), st 1 (by decide), st 0 (by decide)]
  unfold oBd q4
  show _ + (_ + _ + _ + _) = _
  simp only [Nat.add_assoc]
  rfl
theorem oBd_st {c k x : Nat} (hk : R k < 4) (hc : cnB P R (d7 c) k = true) : oBd P R n c (k + 1) x = oBd P R n c k x + if x = c + g7 (R k) then WO7 P R n c else 0 := by
  unfold oBd
  rw [Nat.add_assoc]
  congr 1
  refine q4_add hk ?_ fun t ht hne => ?_
  · have h1 : mgB P R (d7 c) (R k) (k + 1) = true := (mgB_iff _).mpr ⟨k, by omega, rfl, hc⟩
    have h2 : mgB P R (d7 c) (R k) k = false := by
      cases h : mgB P R (d7 c) (R k) k with
      | false => rfl
      | true =>
        obtain ⟨j, j1, j2, j3⟩ := (mgB_iff _).mp h
        have : j = k := wh_inj j2 (by rw [cnB_wh j3, cnB_wh hc, j2])
        omega
    show (if x = c + g7 (R k) ∧ mgB P R (d7 c) (R k) (k + 1) = true then WO7 P R n c else 0) = (if x = c + g7 (R k) ∧ mgB P R (d7 c) (R k) k = true then WO7 P R n c else 0) + _
    rw [h1, h2]
    by_cases hx : x = c + g7 (R k) <;> simp [hx]
  · have : mgB P R (d7 c) t (k + 1) = mgB P R (d7 c) t k := by
      rw [mgB]
      simp [show ¬ R k = t from fun e => hne e.symm]
    rw [this]
theorem oBd_no {c k x : Nat} (hc : cnB P R (d7 c) k = false) : oBd P R n c (k + 1) x = oBd P R n c k x := by
  unfold oBd
  congr 1
  refine q4_congr fun t ht => ?_
  have : mgB P R (d7 c) t (k + 1) = mgB P R (d7 c) t k := by
    rw [mgB, hc]
    simp
  rw [this]
theorem oBd_self (c k : Nat) : oBd P R n c k c = WO7 P R n c := by
  unfold oBd
  rw [zWp_self]
  have : (q4 fun t => if c = c + g7 t ∧ mgB P R (d7 c) t k = true then WO7 P R n c else 0) = q4 fun _ => 0 := q4_congr fun t ht => if_neg (by have := (g7_pos t).1; omega)
  rw [this]
  rfl
def SAl : Nat → Nat → Bool := S2 STk S33
end N7
