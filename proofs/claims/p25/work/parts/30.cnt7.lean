/-! THE REFERENCE EXPLORES AND COUNTS. -/
section M7
variable {L : Nat → Nat} {P : Nat → Nat → Nat}
def go7 (L : Nat → Nat) (P : Nat → Nat → Nat) (i t : Nat) : Bool := goS L P (d7 i) t
theorem go7_next (hW : WP L P) {c t : Nat} (hc : c < 2401) (ht : t < 4) (hg : go7 L P c t = true) : c + g7 t < 2401 := by
  have h1 := goS_lt hg
  have h2 := (hW t ht).1
  exact (ds7.2.2.2 c t hc ht (by omega)).1
def SMx : Nat → Nat → Bool := S2 S32 (S1 33 0)
variable {w : Wd}
theorem W7_small (hW : WP L P) {c : Nat} (hc : c < 2401) : W7 L P c < 281474976710657 := ds_small ds7 (P := P) hW hc
def dB7 (L : Nat → Nat) (P : Nat → Nat → Nat) (c : Nat) : Bool := !decide (W7 L P c = 0) && deadS L P (d7 c)
def nd7 (L : Nat → Nat) (P : Nat → Nat → Nat) (c : Nat) : Nat := if dB7 L P c = true then 1 else 0
/-- what stands(0), (1), (2) count at a stand -/
def ns7 (L : Nat → Nat) (P : Nat → Nat → Nat) (q c : Nat) : Nat := if (!decide (W7 L P c = 0) && (if q = 0 then true else if q = 1 then endS L P (d7 c) else deadS L P (d7 c))) = true then 1 else 0
/-- what runs(0), (1) count at a stand -/
def nr7 (L : Nat → Nat) (P : Nat → Nat → Nat) (q c : Nat) : Nat := if (if q = 0 then endS L P (d7 c) else deadS L P (d7 c)) = true then W7 L P c else 0
theorem lN_add0 (a : Nat) : lN a + lN 0 = lN a := by rw [lN_add, Nat.add_zero]
end M7
