/-! A FRESH PAIR: all is zero. -/
section ST0
def s0 : Stt := (fun _ => 0, fun _ _ => 0, 0, fun _ => 0)
def g0 : Gst := ((0, fun _ => 0), s0, (fun _ => s0, 0, 0), (fun _ => s0, fun _ => false))
theorem SV_0 : SV s0 := ⟨fun t ht => ⟨Nat.zero_le _, fun s hs => absurd hs (Nat.not_lt_zero _)⟩, fun t ht => rfl, ⟨fun t _ => rfl, fun t s _ => rfl⟩, VR_0 _ _⟩
theorem GI_0 : GI g0 := ⟨⟨by show 0 ≤ 40; decide, fun i hi => absurd hi (Nat.not_lt_zero _)⟩, SV_0, ⟨by show 0 ≤ 6; decide, by show 0 < 6; decide, fun i hi => absurd hi (Nat.not_lt_zero _)⟩, fun j _ hb => (by cases hb)⟩
variable {w : Wd}
theorem CI_0 (hz : ∀ t i j, t < 50 → w.1 t i j = nI 0) : CI w g0 :=
  ⟨⟨⟨hz _ _ _ (by decide), fun i hi => absurd hi (Nat.not_lt_zero _)⟩, ⟨⟨fun t ht => hz _ _ _ (by decide), fun t s ht hs => absurd hs (Nat.not_lt_zero _)⟩, hz _ _ _ (by decide), fun i hi => absurd hi (Nat.not_lt_zero _)⟩, ⟨hz _ _ _ (by decide), hz _ _ _ (by decide), fun i hi => absurd hi (Nat.not_lt_zero _)⟩, fun j _ => ⟨hz _ _ _ (by decide), fun hb => (by cases hb)⟩⟩, Or.inl (hz _ _ _ (by decide))⟩
theorem MI_0 (hz : ∀ t i j, t < 50 → w.1 t i j = nI 0) : MI w g0 :=
  ⟨⟨hz _ _ _ (by decide), fun i hi => absurd hi (Nat.not_lt_zero _)⟩, ⟨⟨fun t ht => hz _ _ _ (by decide), fun t s ht hs => absurd hs (Nat.not_lt_zero _)⟩, hz _ _ _ (by decide), fun i hi => absurd hi (Nat.not_lt_zero _)⟩, ⟨hz _ _ _ (by decide), fun i hi => absurd hi (Nat.not_lt_zero _)⟩, (hz _ _ _ (by decide)).trans (by decide), fun j _ hb => (by cases hb)⟩
/-- from a fresh pair the law's loop answers 1, whatever the script -/
theorem law_start {n : Nat} (hn : n < 2147483000) (hz : ∀ t i j, t < 50 → w.1 t i j = nI 0) (hl : w.1 51 0 0 = nI n) : ∃ w', x_L_law 18 [] [some (zr 50 0), some (zr 7 0), some (zr 8 0), some (zi (nI 0))] w = some (nI 1, w') :=
  law_lp hn (n + 8) 0 w g0 (by omega) (by omega) hl GI_0 (CI_0 hz) (MI_0 hz)
end ST0
