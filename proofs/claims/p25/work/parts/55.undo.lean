/-! undo, save, restore alike. -/
section UD
theorem sub_SHs : sub SHs SCl := fun t i h => by
  unfold SCl at h
  rw [Bool.or_eq_false_iff] at h
  have h1 : ¬ t < 8 := fun hl => by rw [Nat.blt_eq.mpr hl] at h; cases h.1
  have h2 : ¬ (9 < t ∧ t < 23) := fun hl => by rw [Nat.blt_eq.mpr hl.1, Nat.blt_eq.mpr hl.2] at h; cases h.2
  have e : ∀ a, a < 23 → (a < 8 ∨ 9 < a) → Nat.beq t a = false := fun a ha hb => by
    cases hh : Nat.beq t a with
    | false => rfl
    | true =>
      have := Nat.eq_of_beq_eq_true hh
      omega
  unfold SHs
  rw [e 0 (by decide) (by decide), e 11 (by decide) (by decide), e 12 (by decide) (by decide), e 3 (by decide) (by decide), e 13 (by decide) (by decide)]
  rfl
theorem sub_SX0 {k : Nat} (h : k < 9) : sub (SXg k) SCl := sub_S2 (sub_S2 (sub_S1 rfl) (sub_S1 rfl)) (sub_S2 (sub_S1 rfl) (sub_S1 rfl))
theorem CS_h {w w' : Wd} (hf : Fr SHs w w') (h : CS w) : CS w' := CS_fr hf rfl rfl rfl rfl rfl rfl h
theorem CS_x {k : Nat} (hk : k < 9) {w w' : Wd} (hf : Fr (SXg k) w w') (h : CS w) : CS w' := by
  obtain ⟨a, b, -, -⟩ := SXg_k (k := k) (j := 10) (by omega)
  exact CS_fr hf rfl a b rfl rfl rfl h
/-- the class takes a kept state as its own -/
theorem v_take {g : Gst} {w : Wd} {k : Nat} (hk : 0 < k) (hk9 : k < 9) (hC : CI w g) {s : Stt} (hV : SV s) (hX : XS w k s) : ∃ w', f_X6_copyFrom 0 k w = some w' ∧ Fr SCl w w' ∧ CI w' (g.1, s, g.2.2) ∧ w'.1 0 0 = w.1 0 0 := by
  obtain ⟨w1, a1, a2, a3⟩ := v_copyX (k0 := 0) (k1 := k) (by omega) hV hX
  refine ⟨w1, a1, a2.sub (sub_SX0 (by decide)), ⟨⟨by exact ⟨by rw [(a2 1 0 rfl).1]; exact hC.1.1.1, fun i hi => by rw [(a2 10 0 rfl).1]; exact hC.1.1.2 i hi⟩, a3, ⟨by rw [(a2 0 0 rfl).1]; exact hC.1.2.2.1.1, by rw [(a2 0 0 rfl).1]; exact hC.1.2.2.1.2.1, fun i hi => ?_⟩, fun j hj => ⟨by rw [(a2 22 0 rfl).1]; exact (hC.1.2.2.2 j hj).1, fun hb => ?_⟩⟩, CS_x (by decide) a2 hC.2⟩, (a2 0 0 rfl).1⟩
  · obtain ⟨b1, b2, b3, b4⟩ := SXg_k (k := 0) (j := 1 + (g.2.2.1.2.2 + i) % 6) (by omega)
    exact XS_fr a2 b1 b2 b3 b4 (hC.1.2.2.1.2.2 i hi)
  · obtain ⟨b1, b2, b3, b4⟩ := SXg_k (k := 0) (j := 7 + j) (by omega)
    exact XS_fr a2 b1 b2 b3 b4 ((hC.1.2.2.2 j hj).2 hb)
end UD
