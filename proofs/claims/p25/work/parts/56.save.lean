/-! save and restore alike. -/
section SR
theorem v_isSlot_b {x : Int32} (h : x < 0 ∨ ∃ q, q < 2147483648 ∧ x = nI q ∧ 2 ≤ q) (w : Wd) : f_X7_isSlot x w = some (nI 0, w) := by
  rcases h with h | ⟨q, hq, rfl, h4⟩
  · exact v_isSlot_neg h w
  · rw [v_isSlot hq, if_neg (by omega)]
theorem fm_set (f : Nat → Bool) {q : Nat} (hq : q < 2) : fm f ||| 2 ^ q = fm (fun j => if j = q then true else f j) := by
  unfold fm
  rcases (show q = 0 ∨ q = 1 by omega) with rfl | rfl
  · show ((if f 0 = true then 1 else 0) ||| (if f 1 = true then 2 else 0)) ||| 1 = 1 ||| (if f 1 = true then 2 else 0)
    cases f 0 <;> cases f 1 <;> decide
  · show ((if f 0 = true then 1 else 0) ||| (if f 1 = true then 2 else 0)) ||| 2 = (if f 0 = true then 1 else 0) ||| 2
    cases f 0 <;> cases f 1 <;> decide
theorem fm_lt (f : Nat → Bool) : fm f < 4 := by
  unfold fm
  cases f 0 <;> cases f 1 <;> decide
theorem fm_bit (f : Nat → Bool) {q : Nat} (hq : q < 2) : (fm f / 2 ^ q % 2 = 0) = (f q = false) := by
  unfold fm
  rcases (show q = 0 ∨ q = 1 by omega) with rfl | rfl <;> cases f 0 <;> cases f 1 <;> simp
def savG (g : Gst) (q : Nat) : Gst := (g.1, g.2.1, g.2.2.1, (fun j => if j = q then g.2.1 else g.2.2.2.1 j, fun j => if j = q then true else g.2.2.2.2 j))
theorem sub_SRc : sub SRc SMd := sub_S2 (sub_S1 rfl) (sub_S1 rfl)
end SR
