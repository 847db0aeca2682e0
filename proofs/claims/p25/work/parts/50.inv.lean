/-! WHAT HOLDS BETWEEN CALLS: both hold the same. -/
section IV
/-- a state: lengths, steps, the kept run -/
abbrev Stt : Type := (Nat → Nat) × (Nat → Nat → Nat) × Nat × (Nat → Nat)
def SV (s : Stt) : Prop := WP s.1 s.2.1 ∧ WE s.1 s.2.1 ∧ CN s.1 s.2.1 ∧ VR s.1 s.2.1 s.2.2.1 s.2.2.2
def XS (w : Wd) (k : Nat) (s : Stt) : Prop := RP w k s.1 s.2.1 ∧ RR w k s.2.2.1 s.2.2.2
/-- all: pad, now, history (size, oldest), saved -/
abbrev Gst : Type := (Nat × (Nat → Nat)) × Stt × ((Nat → Stt) × Nat × Nat) × (Nat → Stt) × (Nat → Bool)
def GI (g : Gst) : Prop := SK g.1.1 g.1.2 ∧ SV g.2.1 ∧ (g.2.2.1.2.1 ≤ 6 ∧ g.2.2.1.2.2 < 6 ∧ ∀ i, i < g.2.2.1.2.1 → SV (g.2.2.1.1 i)) ∧ ∀ j, j < 2 → g.2.2.2.2 j = true → SV (g.2.2.2.1 j)
/-- the class holds it -/
def CJ (w : Wd) (g : Gst) : Prop := PX w g.1.1 g.1.2 ∧ XS w 0 g.2.1 ∧ (w.1 0 0 1 = nI g.2.2.1.2.2 ∧ w.1 0 0 2 = nI g.2.2.1.2.1 ∧ ∀ i, i < g.2.2.1.2.1 → XS w (1 + (g.2.2.1.2.2 + i) % 6) (g.2.2.1.1 i)) ∧ ∀ j, j < 2 → w.1 22 0 j = nI (if g.2.2.2.2 j = true then 1 else 0) ∧ (g.2.2.2.2 j = true → XS w (7 + j) (g.2.2.2.1 j))
/-- what the class keeps of stands is theirs -/
def CS (w : Wd) : Prop := w.1 5 0 1 = nI 0 ∨ ∃ L P, WP L P ∧ CN L P ∧ SPX w L P ∧ (w.1 5 0 5 = nI 0 ∨ SLX w L P)
def CI (w : Wd) (g : Gst) : Prop := CJ w g ∧ CS w
def fm (f : Nat → Bool) : Nat := (if f 0 = true then 1 else 0) ||| (if f 1 = true then 2 else 0)
/-- one set of cells in another -/
def sub (f g : Nat → Nat → Bool) : Prop := ∀ t i, g t i = false → f t i = false
theorem sub_S1 {a b : Nat} {g : Nat → Nat → Bool} (h : g a b = true) : sub (S1 a b) g := fun t i hg => S1_no (fun z => by rw [z.1, z.2, h] at hg; cases hg)
theorem sub_S2 {f1 f2 g : Nat → Nat → Bool} (h1 : sub f1 g) (h2 : sub f2 g) : sub (S2 f1 f2) g := fun t i hg => by
  unfold S2
  rw [h1 t i hg, h2 t i hg]
  rfl
theorem Fr.sub {f g : Nat → Nat → Bool} {w w' : Wd} (h : Fr f w w') (hs : sub f g) : Fr g w w' := h.mono hs
/-- the class's cells; those that a question may change; the reference's cells -/
def SCl (t _ : Nat) : Bool := Nat.blt t 8 || (Nat.blt 9 t && Nat.blt t 23)
def SQ (t i : Nat) : Bool := (Nat.beq t 11 || Nat.beq t 12 || Nat.beq t 3 || Nat.beq t 13) && Nat.blt 8 i || (Nat.beq t 4 || Nat.beq t 5) || Nat.blt 13 t && Nat.blt t 20
def SMd (t _ : Nat) : Bool := Nat.beq t 8 || (Nat.blt 29 t && Nat.blt t 42)
def SU (t i : Nat) : Bool := Nat.beq t 8 || (Nat.blt 31 t && Nat.blt t 42) || (Nat.beq t 30 && Nat.beq i 3)
theorem sub_SQ : sub SQ SCl := fun t i h => by
  unfold SCl at h
  unfold SQ
  rw [Bool.or_eq_false_iff] at h
  have h1 : ¬ t < 8 := fun hl => by rw [Nat.blt_eq.mpr hl] at h; cases h.1
  have h2 : ¬ (9 < t ∧ t < 23) := fun hl => by rw [Nat.blt_eq.mpr hl.1, Nat.blt_eq.mpr hl.2] at h; cases h.2
  have e : ∀ a, a < 23 → (a < 8 ∨ 9 < a) → Nat.beq t a = false := fun a ha hb => by
    cases hh : Nat.beq t a with
    | false => rfl
    | true =>
      have := Nat.eq_of_beq_eq_true hh
      omega
  have e2 : (Nat.blt 13 t && Nat.blt t 20) = false := by
    cases hh : (Nat.blt 13 t && Nat.blt t 20) with
    | false => rfl
    | true =>
      rw [Bool.and_eq_true, Nat.blt_eq, Nat.blt_eq] at hh
      omega
  rw [e 11 (by decide) (by decide), e 12 (by decide) (by decide), e 3 (by decide) (by decide), e 13 (by decide) (by decide), e 4 (by decide) (by decide), e 5 (by decide) (by decide), e2]
  rfl
theorem sub_SU : sub SU SMd := fun t i h => by
  unfold SMd at h
  unfold SU
  rw [Bool.or_eq_false_iff] at h
  have h2 : ¬ (29 < t ∧ t < 42) := fun hl => by rw [Nat.blt_eq.mpr hl.1, Nat.blt_eq.mpr hl.2] at h; cases h.2
  have e2 : (Nat.blt 31 t && Nat.blt t 42) = false := by
    cases hh : (Nat.blt 31 t && Nat.blt t 42) with
    | false => rfl
    | true =>
      rw [Bool.and_eq_true, Nat.blt_eq, Nat.blt_eq] at hh
      omega
  have e3 : Nat.beq t 30 = false := by
    cases hh : Nat.beq t 30 with
    | false => rfl
    | true =>
      have := Nat.eq_of_beq_eq_true hh
      omega
  rw [h.1, e2, e3]
  rfl
theorem XS_fr {S : Nat → Nat → Bool} {w w' : Wd} (hf : Fr S w w') {k : Nat} (h1 : S 11 k = false) (h2 : S 12 k = false) (h3 : S 3 k = false) (h4 : S 13 k = false) {s : Stt} (h : XS w k s) : XS w' k s :=
  ⟨hf.RP h1 h2 h.1, by rw [(hf 3 k h3).1]; exact h.2.1, fun i hi => by rw [(hf 13 k h4).1]; exact h.2.2 i hi⟩
theorem SQ_k {k : Nat} (hk : k ≤ 8) : SQ 11 k = false ∧ SQ 12 k = false ∧ SQ 3 k = false ∧ SQ 13 k = false := by
  have : Nat.blt 8 k = false := by
    cases hh : Nat.blt 8 k with
    | false => rfl
    | true => rw [Nat.blt_eq] at hh; omega
  unfold SQ
  rw [this]
  exact ⟨rfl, rfl, rfl, rfl⟩
theorem CJ_fr {S : Nat → Nat → Bool} {w w' : Wd} (hf : Fr S w w') (h1 : S 1 0 = false) (h2 : S 10 0 = false) (h3 : S 0 0 = false) (h4 : S 22 0 = false) (h5 : ∀ k, k ≤ 8 → S 11 k = false ∧ S 12 k = false ∧ S 3 k = false ∧ S 13 k = false) {g : Gst} (h : CJ w g) : CJ w' g := by
  refine ⟨⟨by rw [(hf 1 0 h1).1]; exact h.1.1, fun i hi => by rw [(hf 10 0 h2).1]; exact h.1.2 i hi⟩, ?_, ⟨by rw [(hf 0 0 h3).1]; exact h.2.2.1.1, by rw [(hf 0 0 h3).1]; exact h.2.2.1.2.1, fun i hi => ?_⟩, fun j hj => ⟨by rw [(hf 22 0 h4).1]; exact (h.2.2.2 j hj).1, fun hb => ?_⟩⟩
  · obtain ⟨a, b, c, d⟩ := h5 0 (by decide)
    exact XS_fr hf a b c d h.2.1
  · have hm : (g.2.2.1.2.2 + i) % 6 < 6 := Nat.mod_lt _ (by decide)
    obtain ⟨a, b, c, d⟩ := h5 (1 + (g.2.2.1.2.2 + i) % 6) (by omega)
    exact XS_fr hf a b c d (h.2.2.1.2.2 i hi)
  · obtain ⟨a, b, c, d⟩ := h5 (7 + j) (by omega)
    exact XS_fr hf a b c d ((h.2.2.2 j hj).2 hb)
theorem CJ_q {w w' : Wd} (hf : Fr SQ w w') {g : Gst} (h : CJ w g) : CJ w' g := CJ_fr hf rfl rfl rfl rfl (fun k hk => SQ_k hk) h
theorem SLX_fr {S : Nat → Nat → Bool} {w w' : Wd} (hf : Fr S w w') (h0 : S 5 0 = false) {L : Nat → Nat} {P : Nat → Nat → Nat} (h : SLX w L P) : SLX w' L P :=
  ⟨⟨by rw [(hf 5 0 h0).2]; exact h.1.1, by rw [(hf 5 0 h0).2]; exact h.1.2⟩, by rw [(hf 5 0 h0).1]; exact h.2.1, by rw [(hf 5 0 h0).1]; exact h.2.2⟩
theorem CS_fr {S : Nat → Nat → Bool} {w w' : Wd} (hf : Fr S w w') (h0 : S 5 0 = false) (h1 : S 11 10 = false) (h2 : S 12 10 = false) (h3 : S 18 0 = false) (h4 : S 17 1 = false) (h5 : S 14 1 = false) (h : CS w) : CS w' := by
  rcases h with h | ⟨L, P, a, b, c, d⟩
  · left
    rw [(hf 5 0 h0).1]; exact h
  · right
    refine ⟨L, P, a, b, SPX_fr hf h1 h2 h3 h4 h5 (by rw [(hf 5 0 h0).1]) c, ?_⟩
    rcases d with d | d
    · left
      rw [(hf 5 0 h0).1]; exact d
    · exact Or.inr (SLX_fr hf h0 d)
/-- looking at the stands of the programs -/
theorem look {g : Gst} {w : Wd} (hG : GI g) (hC : CI w g) : ∃ w', f_X5_lookAt 0 0 w = some w' ∧ Fr SQ w w' ∧ CI w' g ∧ SPX w' g.2.1.1 g.2.1.2.1 ∧ (w'.1 5 0 5 = nI 0 ∨ SLX w' g.2.1.1 g.2.1.2.1) := by
  obtain ⟨hW, hE, hN, hV⟩ := hG.2.1
  have sb : sub SSp SQ := sub_S2 (sub_S1 rfl) (sub_S2 (sub_S2 (sub_S1 rfl) (sub_S1 rfl)) (sub_S2 (sub_S1 rfl) (sub_S2 (sub_S1 rfl) (sub_S1 rfl))))
  have fin : ∀ w', Fr SSp w w' → SPX w' g.2.1.1 g.2.1.2.1 → (w'.1 5 0 5 = nI 0 ∨ SLX w' g.2.1.1 g.2.1.2.1) → Fr SQ w w' ∧ CI w' g ∧ SPX w' g.2.1.1 g.2.1.2.1 ∧ (w'.1 5 0 5 = nI 0 ∨ SLX w' g.2.1.1 g.2.1.2.1) := fun w' h1 h2 h3 =>
    ⟨h1.sub sb, ⟨CJ_q (h1.sub sb) hC.1, Or.inr ⟨_, _, hW, hN, h2, h3⟩⟩, h2, h3⟩
  rcases hC.2 with h0 | ⟨L, P, a, b, c, d⟩
  · obtain ⟨w', h1, h2, h3, h4⟩ := v_lookAt hW hE hN (k := 0) (by decide) hC.1.2.1.1 (L' := g.2.1.1) (P' := g.2.1.2.1) (Or.inl h0)
    rcases h4 with ⟨h4, -, -⟩ | h4
    · exfalso
      have := h3.2.2.2.2
      rw [h4, h0] at this
      exact absurd this (by decide)
    · exact ⟨w', h1, fin w' h2 h3 (Or.inl h4)⟩
  · obtain ⟨w', h1, h2, h3, h4⟩ := v_lookAt hW hE hN (k := 0) (by decide) hC.1.2.1.1 (L' := L) (P' := P) (Or.inr ⟨c, a, b⟩)
    rcases h4 with ⟨h4, h5, h6⟩ | h4
    · refine ⟨w', h1, fin w' h2 h3 ?_⟩
      subst h4
      rw [← h5, ← h6]
      exact d
    · exact ⟨w', h1, fin w' h2 h3 (Or.inl h4)⟩
end IV
