/-! THE LAW'S LOOP: every call is answered alike, to the end of the script. -/
section LW
theorem law_step {α : Type} {fx fm : Wd → Option (α × Wd)} (h : A2 fx fm) {g : Gst} {w : Wd} (hG : GI g) (hC : CI w g) (hM : MI w g) : ∃ v w1 w2 g2, fx w = some (v, w1) ∧ (∀ j, w1.1 50 0 j = w.1 50 0 j) ∧ w1.1 51 0 0 = w.1 51 0 0 ∧ fm w1 = some (v, w2) ∧ (∀ j, w2.1 50 0 j = w.1 50 0 j) ∧ w2.1 51 0 0 = w.1 51 0 0 ∧ GI g2 ∧ CI w2 g2 ∧ MI w2 g2 := by
  obtain ⟨v, w1, g1, m1, h1, h2, -⟩ := h g w w hG hC hM
  have hM1 : MI w1 g := MI_fr h2 rfl rfl rfl rfl (by rw [(h2 8 0 rfl).1]) (by rw [(h2 8 0 rfl).1]) (by rw [(h2 8 0 rfl).1]) hM
  obtain ⟨v2, w2, g2, m2, k1, k2, k3, k4, k5, k6, k7⟩ := h g w w1 hG hC hM1
  rw [h1] at k1
  cases k1
  refine ⟨v, w1, m2, g2, h1, fun j => by rw [(h2 50 0 rfl).1], by rw [(h2 51 0 rfl).1], k5, fun j => by rw [(k6 50 0 rfl).1, (h2 50 0 rfl).1], by rw [(k6 51 0 rfl).1, (h2 51 0 rfl).1], k3, ⟨CJ_fr k6 rfl rfl rfl rfl (fun k _ => ⟨rfl, rfl, rfl, rfl⟩) k4.1, CS_fr k6 rfl rfl rfl rfl rfl rfl k4.2⟩, k7⟩
theorem law_cmp (a : Int64) : lg_cmp a a = 0 := by
  rw [lg_cmp_eq]
set_option maxHeartbeats 4000000 in
theorem law_lp {n : Nat} (hn : n < 2147483000) : ∀ (m i : Nat) (w : Wd) (g : Gst), n + 8 ≤ m + i → i ≤ n + 4 → w.1 51 0 0 = nI n → GI g → CI w g → MI w g → ∃ w', x_L_law 18 [] [some (zr 50 0), some (zr 7 0), some (zr 8 0), some (zi (nI i))] w = some (nI 1, w') := by
  intro m
  induction m with
  | zero => intro i w g h1 h2; omega
  | succ m ih =>
    intro i w g hmi hi hl hG hC hM
    have go : ∀ (w2 : Wd) (g2 : Gst), w2.1 51 0 0 = w.1 51 0 0 → GI g2 → CI w2 g2 → MI w2 g2 → i + 4 ≤ n → ∃ w', x_L_law 18 [] [some (zr 50 0), some (zr 7 0), some (zr 8 0), some (zi (nI (i + 4)))] w2 = some (nI 1, w') := fun w2 g2 h1 h2 h3 h4 h5 => ih (i + 4) w2 g2 (by omega) (by omega) (h1.trans hl) h2 h3 h4
    have hlen : (w.1 51 0 0).toNatClampNeg = n := by rw [hl, jcl (by omega)]
    have hci : (nI i).toNatClampNeg = i := jcl (by omega)
    rw [e_L_law_18, hlen, hci]
    by_cases hend : Int32.ofNat n - Int32.ofInt 4 < nI i
    · rw [if_pos hend]
      exact ⟨w, jzb1⟩
    · rw [if_neg hend]
      have hin : i + 4 ≤ n := by
        by_cases h4 : 4 ≤ n
        · have hend : ¬ nI n - nI 4 < nI i := hend
          rw [jsub h4, jlt (by omega) (by omega)] at hend
          omega
        · exfalso
          apply hend
          show nI n - nI 4 < nI i
          have : nI n - nI 4 < (0 : Int32) := by
            rcases (show n = 0 ∨ n = 1 ∨ n = 2 ∨ n = 3 by omega) with rfl | rfl | rfl | rfl <;> decide
          exact Int32.lt_of_lt_of_le this (nI_pos' (show i < 2 ^ 31 by omega))
      rw [jchk (show i < n by omega) (by omega)]
      by_cases c0 : w.1 50 0 i &&& Int32.ofInt 31 = Int32.ofInt 0
      · rw [if_pos c0]
        obtain ⟨v, w1, w2, g2, h1, p1, p2, h2, p3, p4, k1, k2, k3⟩ := law_step (a2_put (((w.1 50 0 (i + 1)).toInt64 <<< ((Int32.ofInt 32).toInt64 &&& 63)) ||| ((w.1 50 0 (i + 2)).toInt64 &&& (4294967295 : Int64)))) hG hC hM
        have q := go w2 g2 p4 k1 k2 k3 hin
        try simp only [jl] at h1 h2
        simp (disch := omega) only [jl, nI_add, jchk, jcl, h1, joc, p1, p2, hl, jcl, h2, ↓reduceIte, show ∀ a : Int64, (lg_cmp a a = 0) = True from fun a => eq_true (law_cmp a)]
        exact q
      rw [if_neg c0]
      by_cases c1 : w.1 50 0 i &&& Int32.ofInt 31 = Int32.ofInt 1
      · rw [if_pos c1]
        obtain ⟨v, w1, w2, g2, h1, p1, p2, h2, p3, p4, k1, k2, k3⟩ := law_step (a2_wipe) hG hC hM
        have q := go w2 g2 p4 k1 k2 k3 hin
        try simp only [jl] at h1 h2
        simp (disch := omega) only [jl, nI_add, jchk, jcl, h1, joc, p1, p2, hl, jcl, h2, ↓reduceIte, show ∀ a : Int64, (lg_cmp a a = 0) = True from fun a => eq_true (law_cmp a)]
        exact q
      rw [if_neg c1]
      by_cases c2 : w.1 50 0 i &&& Int32.ofInt 31 = Int32.ofInt 2
      · rw [if_pos c2]
        obtain ⟨v, w1, w2, g2, h1, p1, p2, h2, p3, p4, k1, k2, k3⟩ := law_step (a2_fault (w.1 50 0 (i + 1))) hG hC hM
        have q := go w2 g2 p4 k1 k2 k3 hin
        try simp only [jl] at h1 h2
        simp (disch := omega) only [jl, nI_add, jchk, jcl, h1, joc, p1, p2, hl, jcl, h2, ↓reduceIte, show ∀ a : Int64, (lg_cmp a a = 0) = True from fun a => eq_true (law_cmp a)]
        exact q
      rw [if_neg c2]
      by_cases c3 : w.1 50 0 i &&& Int32.ofInt 31 = Int32.ofInt 3
      · rw [if_pos c3]
        obtain ⟨v, w1, w2, g2, h1, p1, p2, h2, p3, p4, k1, k2, k3⟩ := law_step (a2_program (w.1 50 0 (i + 1))) hG hC hM
        have q := go w2 g2 p4 k1 k2 k3 hin
        try simp only [jl] at h1 h2
        simp (disch := omega) only [jl, nI_add, jchk, jcl, h1, joc, p1, p2, hl, jcl, h2, ↓reduceIte, show ∀ a : Int64, (lg_cmp a a = 0) = True from fun a => eq_true (law_cmp a)]
        exact q
      rw [if_neg c3]
      by_cases c4 : w.1 50 0 i &&& Int32.ofInt 31 = Int32.ofInt 4
      · rw [if_pos c4]
        obtain ⟨v, w1, w2, g2, h1, p1, p2, h2, p3, p4, k1, k2, k3⟩ := law_step (a2_exchange (w.1 50 0 (i + 1)) (w.1 50 0 (i + 2))) hG hC hM
        have q := go w2 g2 p4 k1 k2 k3 hin
        try simp only [jl] at h1 h2
        simp (disch := omega) only [jl, nI_add, jchk, jcl, h1, joc, p1, p2, hl, jcl, h2, ↓reduceIte, show ∀ a : Int64, (lg_cmp a a = 0) = True from fun a => eq_true (law_cmp a)]
        exact q
      rw [if_neg c4]
      by_cases c5 : w.1 50 0 i &&& Int32.ofInt 31 = Int32.ofInt 5
      · rw [if_pos c5]
        obtain ⟨v, w1, w2, g2, h1, p1, p2, h2, p3, p4, k1, k2, k3⟩ := law_step (a2_keep) hG hC hM
        have q := go w2 g2 p4 k1 k2 k3 hin
        try simp only [jl] at h1 h2
        simp (disch := omega) only [jl, nI_add, jchk, jcl, h1, joc, p1, p2, hl, jcl, h2, ↓reduceIte, show ∀ a : Int64, (lg_cmp a a = 0) = True from fun a => eq_true (law_cmp a)]
        exact q
      rw [if_neg c5]
      by_cases c6 : w.1 50 0 i &&& Int32.ofInt 31 = Int32.ofInt 6
      · rw [if_pos c6]
        obtain ⟨v, w1, w2, g2, h1, p1, p2, h2, p3, p4, k1, k2, k3⟩ := law_step (a2_ofStep (w.1 50 0 (i + 1)) (w.1 50 0 (i + 2)) (w.1 50 0 (i + 3))) hG hC hM
        have q := go w2 g2 p4 k1 k2 k3 hin
        try simp only [jl] at h1 h2
        simp (disch := omega) only [jl, nI_add, jchk, jcl, h1, joc, p1, p2, hl, jcl, h2, ↓reduceIte, show ∀ a : Int64, (lg_cmp a a = 0) = True from fun a => eq_true (law_cmp a)]
        exact q
      rw [if_neg c6]
      by_cases c7 : w.1 50 0 i &&& Int32.ofInt 31 = Int32.ofInt 7
      · rw [if_pos c7]
        obtain ⟨v, w1, w2, g2, h1, p1, p2, h2, p3, p4, k1, k2, k3⟩ := law_step (a2_count (w.1 50 0 (i + 1))) hG hC hM
        have q := go w2 g2 p4 k1 k2 k3 hin
        try simp only [jl] at h1 h2
        simp (disch := omega) only [jl, nI_add, jchk, jcl, h1, joc, p1, p2, hl, jcl, h2, ↓reduceIte, show ∀ a : Int64, (lg_cmp a a = 0) = True from fun a => eq_true (law_cmp a)]
        exact q
      rw [if_neg c7]
      by_cases c8 : w.1 50 0 i &&& Int32.ofInt 31 = Int32.ofInt 8
      · rw [if_pos c8]
        obtain ⟨v, w1, w2, g2, h1, p1, p2, h2, p3, p4, k1, k2, k3⟩ := law_step ((al_stands (w.1 50 0 (i + 1))).two) hG hC hM
        have q := go w2 g2 p4 k1 k2 k3 hin
        try simp only [jl] at h1 h2
        simp (disch := omega) only [jl, nI_add, jchk, jcl, h1, joc, p1, p2, hl, jcl, h2, ↓reduceIte, show ∀ a : Int64, (lg_cmp a a = 0) = True from fun a => eq_true (law_cmp a)]
        exact q
      rw [if_neg c8]
      by_cases c9 : w.1 50 0 i &&& Int32.ofInt 31 = Int32.ofInt 9
      · rw [if_pos c9]
        obtain ⟨v, w1, w2, g2, h1, p1, p2, h2, p3, p4, k1, k2, k3⟩ := law_step ((al_deadlock (w.1 50 0 (i + 1)) (w.1 50 0 (i + 2))).two) hG hC hM
        have q := go w2 g2 p4 k1 k2 k3 hin
        try simp only [jl] at h1 h2
        simp (disch := omega) only [jl, nI_add, jchk, jcl, h1, joc, p1, p2, hl, jcl, h2, ↓reduceIte, show ∀ a : Int64, (lg_cmp a a = 0) = True from fun a => eq_true (law_cmp a)]
        exact q
      rw [if_neg c9]
      by_cases c10 : w.1 50 0 i &&& Int32.ofInt 31 = Int32.ofInt 10
      · rw [if_pos c10]
        obtain ⟨v, w1, w2, g2, h1, p1, p2, h2, p3, p4, k1, k2, k3⟩ := law_step ((al_runs (w.1 50 0 (i + 1))).two) hG hC hM
        have q := go w2 g2 p4 k1 k2 k3 hin
        try simp only [jl] at h1 h2
        simp (disch := omega) only [jl, nI_add, jchk, jcl, h1, joc, p1, p2, hl, jcl, h2, ↓reduceIte, show ∀ a : Int64, (lg_cmp a a = 0) = True from fun a => eq_true (law_cmp a)]
        exact q
      rw [if_neg c10]
      by_cases c11 : w.1 50 0 i &&& Int32.ofInt 31 = Int32.ofInt 11
      · rw [if_pos c11]
        obtain ⟨v, w1, w2, g2, h1, p1, p2, h2, p3, p4, k1, k2, k3⟩ := law_step ((al_sleeping (w.1 50 0 (i + 1))).two) hG hC hM
        have q := go w2 g2 p4 k1 k2 k3 hin
        try simp only [jl] at h1 h2
        simp (disch := omega) only [jl, nI_add, jchk, jcl, h1, joc, p1, p2, hl, jcl, h2, ↓reduceIte, show ∀ a : Int64, (lg_cmp a a = 0) = True from fun a => eq_true (law_cmp a)]
        exact q
      rw [if_neg c11]
      by_cases c12 : w.1 50 0 i &&& Int32.ofInt 31 = Int32.ofInt 12
      · rw [if_pos c12]
        obtain ⟨v, w1, w2, g2, h1, p1, p2, h2, p3, p4, k1, k2, k3⟩ := law_step ((al_way (w.1 50 0 (i + 1))).two) hG hC hM
        have q := go w2 g2 p4 k1 k2 k3 hin
        try simp only [jl] at h1 h2
        simp (disch := omega) only [jl, nI_add, jchk, jcl, h1, joc, p1, p2, hl, jcl, h2, ↓reduceIte, show ∀ a : Int64, (lg_cmp a a = 0) = True from fun a => eq_true (law_cmp a)]
        exact q
      rw [if_neg c12]
      by_cases c13 : w.1 50 0 i &&& Int32.ofInt 31 = Int32.ofInt 13
      · rw [if_pos c13]
        obtain ⟨v, w1, w2, g2, h1, p1, p2, h2, p3, p4, k1, k2, k3⟩ := law_step ((al_without (w.1 50 0 (i + 1))).two) hG hC hM
        have q := go w2 g2 p4 k1 k2 k3 hin
        try simp only [jl] at h1 h2
        simp (disch := omega) only [jl, nI_add, jchk, jcl, h1, joc, p1, p2, hl, jcl, h2, ↓reduceIte, show ∀ a : Int64, (lg_cmp a a = 0) = True from fun a => eq_true (law_cmp a)]
        exact q
      rw [if_neg c13]
      by_cases c14 : w.1 50 0 i &&& Int32.ofInt 31 = Int32.ofInt 14
      · rw [if_pos c14]
        obtain ⟨v, w1, w2, g2, h1, p1, p2, h2, p3, p4, k1, k2, k3⟩ := law_step ((al_least (w.1 50 0 (i + 1))).two) hG hC hM
        have q := go w2 g2 p4 k1 k2 k3 hin
        try simp only [jl] at h1 h2
        simp (disch := omega) only [jl, nI_add, jchk, jcl, h1, joc, p1, p2, hl, jcl, h2, ↓reduceIte, show ∀ a : Int64, (lg_cmp a a = 0) = True from fun a => eq_true (law_cmp a)]
        exact q
      rw [if_neg c14]
      by_cases c15 : w.1 50 0 i &&& Int32.ofInt 31 = Int32.ofInt 15
      · rw [if_pos c15]
        obtain ⟨v, w1, w2, g2, h1, p1, p2, h2, p3, p4, k1, k2, k3⟩ := law_step (a2_alike) hG hC hM
        have q := go w2 g2 p4 k1 k2 k3 hin
        try simp only [jl] at h1 h2
        simp (disch := omega) only [jl, nI_add, jchk, jcl, h1, joc, p1, p2, hl, jcl, h2, ↓reduceIte, show ∀ a : Int64, (lg_cmp a a = 0) = True from fun a => eq_true (law_cmp a)]
        exact q
      rw [if_neg c15]
      by_cases c16 : w.1 50 0 i &&& Int32.ofInt 31 = Int32.ofInt 16
      · rw [if_pos c16]
        obtain ⟨v, w1, w2, g2, h1, p1, p2, h2, p3, p4, k1, k2, k3⟩ := law_step (al_chain.two) hG hC hM
        have q := go w2 g2 p4 k1 k2 k3 hin
        try simp only [jl] at h1 h2
        simp (disch := omega) only [jl, nI_add, jchk, jcl, h1, joc, p1, p2, hl, jcl, h2, ↓reduceIte, show ∀ a : Int64, (lg_cmp a a = 0) = True from fun a => eq_true (law_cmp a)]
        exact q
      rw [if_neg c16]
      by_cases c17 : w.1 50 0 i &&& Int32.ofInt 31 = Int32.ofInt 17
      · rw [if_pos c17]
        obtain ⟨v, w1, w2, g2, h1, p1, p2, h2, p3, p4, k1, k2, k3⟩ := law_step ((al_lastWrite (w.1 50 0 (i + 1)) (w.1 50 0 (i + 2))).two) hG hC hM
        have q := go w2 g2 p4 k1 k2 k3 hin
        try simp only [jl] at h1 h2
        simp (disch := omega) only [jl, nI_add, jchk, jcl, h1, joc, p1, p2, hl, jcl, h2, ↓reduceIte, show ∀ a : Int64, (lg_cmp a a = 0) = True from fun a => eq_true (law_cmp a)]
        exact q
      rw [if_neg c17]
      by_cases c18 : w.1 50 0 i &&& Int32.ofInt 31 = Int32.ofInt 18
      · rw [if_pos c18]
        obtain ⟨v, w1, w2, g2, h1, p1, p2, h2, p3, p4, k1, k2, k3⟩ := law_step (al_alikeRuns.two) hG hC hM
        have q := go w2 g2 p4 k1 k2 k3 hin
        try simp only [jl] at h1 h2
        simp (disch := omega) only [jl, nI_add, jchk, jcl, h1, joc, p1, p2, hl, jcl, h2, ↓reduceIte, show ∀ a : Int64, (lg_cmp a a = 0) = True from fun a => eq_true (law_cmp a)]
        exact q
      rw [if_neg c18]
      by_cases c19 : w.1 50 0 i &&& Int32.ofInt 31 = Int32.ofInt 19
      · rw [if_pos c19]
        obtain ⟨v, w1, w2, g2, h1, p1, p2, h2, p3, p4, k1, k2, k3⟩ := law_step (a2_undo) hG hC hM
        have q := go w2 g2 p4 k1 k2 k3 hin
        try simp only [jl] at h1 h2
        simp (disch := omega) only [jl, nI_add, jchk, jcl, h1, joc, p1, p2, hl, jcl, h2, ↓reduceIte, show ∀ a : Int64, (lg_cmp a a = 0) = True from fun a => eq_true (law_cmp a)]
        exact q
      rw [if_neg c19]
      by_cases c20 : w.1 50 0 i &&& Int32.ofInt 31 = Int32.ofInt 20
      · rw [if_pos c20]
        obtain ⟨v, w1, w2, g2, h1, p1, p2, h2, p3, p4, k1, k2, k3⟩ := law_step (a2_save (w.1 50 0 (i + 1))) hG hC hM
        have q := go w2 g2 p4 k1 k2 k3 hin
        try simp only [jl] at h1 h2
        simp (disch := omega) only [jl, nI_add, jchk, jcl, h1, joc, p1, p2, hl, jcl, h2, ↓reduceIte, show ∀ a : Int64, (lg_cmp a a = 0) = True from fun a => eq_true (law_cmp a)]
        exact q
      rw [if_neg c20]
      by_cases c21 : w.1 50 0 i &&& Int32.ofInt 31 = Int32.ofInt 21
      · rw [if_pos c21]
        obtain ⟨v, w1, w2, g2, h1, p1, p2, h2, p3, p4, k1, k2, k3⟩ := law_step (a2_restore (w.1 50 0 (i + 1))) hG hC hM
        have q := go w2 g2 p4 k1 k2 k3 hin
        try simp only [jl] at h1 h2
        simp (disch := omega) only [jl, nI_add, jchk, jcl, h1, joc, p1, p2, hl, jcl, h2, ↓reduceIte, show ∀ a : Int64, (lg_cmp a a = 0) = True from fun a => eq_true (law_cmp a)]
        exact q
      rw [if_neg c21]
      rw [show nI i + Int32.ofInt 4 = nI (i + 4) from nI_add i 4]
      exact go w g rfl hG hC hM hin
end LW
