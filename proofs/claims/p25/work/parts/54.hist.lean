/-! HISTORY and saved states. -/
section HS
def SXg (k : Nat) : Nat → Nat → Bool := S2 (SPg k) (SRg k)
theorem v_copyFromR (k0 k1 : Nat) (w : Wd) : f_X3_copyFrom k0 k1 w = some (wI (wC w 13 k1 0 13 k0 0 24) 3 k0 1 ((wC w 13 k1 0 13 k0 0 24).1 3 k1 1)) := by
  rw [e_X3_copyFrom]
  simp (disch := omega) only [jl, jlt0, jcl, false_or, Nat.zero_add, Nat.lt_irrefl, ↓reduceIte]
theorem v_copyR {w : Wd} {k0 k1 n : Nat} {R : Nat → Nat} (hR : RR w k1 n R) (hn : n ≤ 24) : ∃ w', f_X3_copyFrom k0 k1 w = some w' ∧ Fr (SRg k0) w w' ∧ RR w' k0 n R := by
  refine ⟨_, v_copyFromR k0 k1 w, (Fr.rf.wC (SRg_13 k0)).wI (SRg_3 k0), ?_, fun i hi => ?_⟩
  · rw [jw1, if_pos ⟨rfl, rfl, rfl⟩, jc1, if_neg (by omega)]
    exact hR.1
  · rw [jw1, if_neg (by omega), jc1, if_pos ⟨rfl, rfl, by omega, by omega⟩, Nat.zero_add, Nat.sub_zero]
    exact hR.2 i hi
theorem v_copyX {w : Wd} {k0 k1 : Nat} (hk : k0 ≠ k1) {s : Stt} (hV : SV s) (h : XS w k1 s) : ∃ w', f_X6_copyFrom k0 k1 w = some w' ∧ Fr (SXg k0) w w' ∧ XS w' k0 s := by
  have f1 := Fr_copyP k0 k1 w
  have hRP := RP_copy (k0 := k0) h.1 hV.1
  have e1 := v_copyFromP k0 k1 w
  generalize wC (wC w 11 k1 0 11 k0 0 24) 12 k1 0 12 k0 0 4 = w1 at f1 hRP e1
  have hk13 : SPg k0 13 k1 = false := by unfold SPg S2 S1; rfl
  have hk3 : SPg k0 3 k1 = false := by unfold SPg S2 S1; rfl
  obtain ⟨w2, b1, b2, b3⟩ := v_copyR (k0 := k0) (k1 := k1) (w := w1) (n := s.2.2.1) (R := s.2.2.2) ⟨by rw [(f1 3 k1 hk3).1]; exact h.2.1, fun i hi => by rw [(f1 13 k1 hk13).1]; exact h.2.2 i hi⟩ hV.2.2.2.1
  refine ⟨w2, ?_, (f1.mono fun t i h => S2_l h).tr (b2.mono fun t i h => S2_r h), b2.RP rfl rfl hRP, b3⟩
  rw [e_X6_copyFrom, e1, joc, b1, joc]
def hrec (h : Nat → Stt) (z : Nat) (s : Stt) : Nat → Stt := fun i => if z < 6 then (if i = z then s else h i) else (if i = 5 then s else h (i + 1))
def recG (g : Gst) : Gst := (g.1, g.2.1, (hrec g.2.2.1.1 g.2.2.1.2.1 g.2.1, (if g.2.2.1.2.1 < 6 then g.2.2.1.2.1 + 1 else 6), (if g.2.2.1.2.1 < 6 then g.2.2.1.2.2 else (g.2.2.1.2.2 + 1) % 6)), g.2.2.2)
theorem recG_GI {g : Gst} (h : GI g) : GI (recG g) := by
  obtain ⟨h1, h2, ⟨h3, h4, h5⟩, h6⟩ := h
  refine ⟨h1, h2, ⟨?_, ?_, fun i hi => ?_⟩, h6⟩
  · show (if g.2.2.1.2.1 < 6 then g.2.2.1.2.1 + 1 else 6) ≤ 6
    split <;> omega
  · show (if g.2.2.1.2.1 < 6 then g.2.2.1.2.2 else (g.2.2.1.2.2 + 1) % 6) < 6
    split <;> omega
  · have hi : i < (if g.2.2.1.2.1 < 6 then g.2.2.1.2.1 + 1 else 6) := hi
    show SV (hrec g.2.2.1.1 g.2.2.1.2.1 g.2.1 i)
    unfold hrec
    by_cases hz : g.2.2.1.2.1 < 6
    · rw [if_pos hz] at hi ⊢
      by_cases e : i = g.2.2.1.2.1
      · rw [if_pos e]; exact h2
      · rw [if_neg e]; exact h5 i (by omega)
    · rw [if_neg hz] at hi ⊢
      by_cases e : i = 5
      · rw [if_pos e]; exact h2
      · rw [if_neg e]; exact h5 (i + 1) (by omega)
theorem SXg_k {k j : Nat} (h : j ≠ k) : SXg k 11 j = false ∧ SXg k 12 j = false ∧ SXg k 3 j = false ∧ SXg k 13 j = false := by
  have e : Nat.beq j k = false := by
    cases hh : Nat.beq j k with
    | false => rfl
    | true => exact absurd (Nat.eq_of_beq_eq_true hh) h
  unfold SXg SPg SRg S2 S1
  rw [e]
  exact ⟨rfl, rfl, rfl, rfl⟩
def SHs : Nat → Nat → Bool := fun t i => (Nat.beq t 0 && Nat.beq i 0) || (Nat.beq t 11 || Nat.beq t 12 || Nat.beq t 3 || Nat.beq t 13) && (Nat.blt 0 i && Nat.blt i 9)
theorem sub_SX {k : Nat} (h1 : 0 < k) (h2 : k < 9) : sub (SXg k) SHs := by
  have e1 : Nat.blt 0 k = true := Nat.blt_eq.mpr h1
  have e2 : Nat.blt k 9 = true := Nat.blt_eq.mpr h2
  have e : ∀ a, (a = 11 ∨ a = 12 ∨ a = 3 ∨ a = 13) → SHs a k = true := fun a ha => by
    unfold SHs
    rw [e1, e2]
    rcases ha with rfl | rfl | rfl | rfl <;> rfl
  exact sub_S2 (sub_S2 (sub_S1 (e 11 (by decide))) (sub_S1 (e 12 (by decide)))) (sub_S2 (sub_S1 (e 3 (by decide))) (sub_S1 (e 13 (by decide))))
theorem v_record {g : Gst} {w : Wd} (hG : GI g) (hC : CJ w g) : ∃ w', f_X0_record 0 0 w = some w' ∧ Fr SHs w w' ∧ CJ w' (recG g) := by
  obtain ⟨h1, h2, ⟨h3, h4, h5⟩, h6⟩ := hG
  have hm : (g.2.2.1.2.2 + g.2.2.1.2.1) % 6 < 6 := Nat.mod_lt _ (by decide)
  obtain ⟨w1, a1, a2, a3⟩ := v_copyX (k0 := 1 + (g.2.2.1.2.2 + g.2.2.1.2.1) % 6) (k1 := 0) (by omega) h2 hC.2.1
  have fX := sub_SX (k := 1 + (g.2.2.1.2.2 + g.2.2.1.2.1) % 6) (by omega) (by omega)
  have z2 : w1.1 0 0 2 = nI g.2.2.1.2.1 := by rw [(a2 0 0 rfl).1]; exact hC.2.2.1.2.1
  have z1 : w1.1 0 0 1 = nI g.2.2.1.2.2 := by rw [(a2 0 0 rfl).1]; exact hC.2.2.1.1
  have keep : ∀ (w' : Wd), Fr (S1 0 0) w1 w' → w'.1 0 0 1 = nI (if g.2.2.1.2.1 < 6 then g.2.2.1.2.2 else (g.2.2.1.2.2 + 1) % 6) → w'.1 0 0 2 = nI (if g.2.2.1.2.1 < 6 then g.2.2.1.2.1 + 1 else 6) → Fr SHs w w' ∧ CJ w' (recG g) := fun w' f q1 q2 => by
    have fs : Fr SHs w w' := (a2.sub fX).tr (f.sub (sub_S1 rfl))
    refine ⟨fs, ⟨by rw [(fs 1 0 rfl).1]; exact hC.1.1, fun i hi => by rw [(fs 10 0 rfl).1]; exact hC.1.2 i hi⟩, XS_fr fs rfl rfl rfl rfl hC.2.1, ⟨q1, q2, fun i hi => ?_⟩, fun j hj => ⟨by rw [(fs 22 0 rfl).1]; exact (hC.2.2.2 j hj).1, fun hb => ?_⟩⟩
    · have hi : i < (if g.2.2.1.2.1 < 6 then g.2.2.1.2.1 + 1 else 6) := hi
      show XS w' (1 + ((if g.2.2.1.2.1 < 6 then g.2.2.1.2.2 else (g.2.2.1.2.2 + 1) % 6) + i) % 6) (hrec g.2.2.1.1 g.2.2.1.2.1 g.2.1 i)
      have fk : ∀ k, S1 0 0 11 k = false ∧ S1 0 0 12 k = false ∧ S1 0 0 3 k = false ∧ S1 0 0 13 k = false := fun k => ⟨rfl, rfl, rfl, rfl⟩
      have old : ∀ j, j < g.2.2.1.2.1 → (g.2.2.1.2.2 + j) % 6 ≠ (g.2.2.1.2.2 + g.2.2.1.2.1) % 6 → XS w' (1 + (g.2.2.1.2.2 + j) % 6) (g.2.2.1.1 j) := fun j hj hne => by
        obtain ⟨b1, b2, b3, b4⟩ := SXg_k (k := 1 + (g.2.2.1.2.2 + g.2.2.1.2.1) % 6) (j := 1 + (g.2.2.1.2.2 + j) % 6) (by omega)
        exact XS_fr f rfl rfl rfl rfl (XS_fr a2 b1 b2 b3 b4 (hC.2.2.1.2.2 j hj))
      unfold hrec
      by_cases hz : g.2.2.1.2.1 < 6
      · rw [if_pos hz] at hi ⊢
        rw [if_pos hz]
        by_cases e : i = g.2.2.1.2.1
        · rw [if_pos e, e]
          exact XS_fr f rfl rfl rfl rfl a3
        · rw [if_neg e]
          exact old i (by omega) (by omega)
      · have hz6 : g.2.2.1.2.1 = 6 := by omega
        rw [if_neg hz] at hi ⊢
        rw [if_neg hz]
        by_cases e : i = 5
        · rw [if_pos e, e, show ((g.2.2.1.2.2 + 1) % 6 + 5) % 6 = (g.2.2.1.2.2 + g.2.2.1.2.1) % 6 by omega]
          exact XS_fr f rfl rfl rfl rfl a3
        · rw [if_neg e]
          have := old (i + 1) (by omega) (by omega)
          rw [show ((g.2.2.1.2.2 + 1) % 6 + i) % 6 = (g.2.2.1.2.2 + (i + 1)) % 6 by omega]
          exact this
    · obtain ⟨b1, b2, b3, b4⟩ := SXg_k (k := 1 + (g.2.2.1.2.2 + g.2.2.1.2.1) % 6) (j := 7 + j) (by omega)
      exact XS_fr f rfl rfl rfl rfl (XS_fr a2 b1 b2 b3 b4 ((hC.2.2.2 j hj).2 hb))
  have hd : ∀ (a b : Nat), b ≤ 6 → a < 6 → (nI a + nI b) - (nI a + nI b) / nI 6 * nI 6 = nI ((a + b) % 6) := fun a b hb ha => by
    rw [nI_add, jrem (by omega) (by decide) (by decide)]
  have e0 : f_X0_record 0 0 w = (if nI 6 ≤ (w1.1 0 0 2) then some (wI w1 0 0 1 (((w1.1 0 0 1) + (nI 1)) - ((w1.1 0 0 1) + (nI 1)) / (nI 6) * (nI 6))) else (some (wI w1 0 0 2 ((w1.1 0 0 2) + (nI 1))))) := by
    rw [e_X0_record, hC.2.2.1.1, hC.2.2.1.2.1]
    simp only [jl]
    rw [hd _ _ h3 h4]
    simp (disch := omega) only [jeq0, Nat.reduceEqDiff, ↓reduceIte, jchk, jcl, a1, joc]
  rw [e0, z2, z1]
  simp (disch := omega) only [jle]
  by_cases hz : g.2.2.1.2.1 < 6
  · rw [if_neg (by omega), nI_add]
    obtain ⟨k1, k2⟩ := keep (wI w1 0 0 2 (nI (g.2.2.1.2.1 + 1))) (Fr.rf.wI (by decide)) (by rw [jw1, if_neg (by omega), z1, if_pos hz]) (by rw [jw1, if_pos ⟨rfl, rfl, rfl⟩, if_pos hz])
    exact ⟨_, rfl, k1, k2⟩
  · rw [if_pos (by omega), hd _ _ (by decide) h4]
    obtain ⟨k1, k2⟩ := keep (wI w1 0 0 1 (nI ((g.2.2.1.2.2 + 1) % 6))) (Fr.rf.wI (by decide)) (by rw [jw1, if_pos ⟨rfl, rfl, rfl⟩, if_neg hz]) (by rw [jw1, if_neg (by omega), z2, if_neg hz, show g.2.2.1.2.1 = 6 by omega])
    exact ⟨_, rfl, k1, k2⟩
def SRc : Nat → Nat → Bool := S2 (S1 30 1) (S1 8 0)
end HS
