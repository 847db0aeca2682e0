/-! program alike. -/
section PM'
def pgC (S : Nat → Nat) (k : Nat) : Nat := 4 * kd (S (2 * k)) + (S (2 * k + 1) - 48)
def pgL (t p : Nat) (L : Nat → Nat) (u : Nat) : Nat := if u = t then p / 2 else L u
def pgP (S : Nat → Nat) (t p : Nat) (P : Nat → Nat → Nat) (u k : Nat) : Nat := if u = t then (if k < p / 2 then pgC S k else 0) else P u k
variable {p : Nat} {S : Nat → Nat} {L : Nat → Nat} {P : Nat → Nat → Nat}
theorem okP_k (hO : okP p S) {k : Nat} (hk : k < p / 2) : kd (S (2 * k)) < 4 ∧ dg (S (2 * k + 1)) = true := by
  have h1 := hO.2.2 (2 * k) (by omega)
  have h2 := hO.2.2 (2 * k + 1) (by omega)
  rw [if_pos (by omega)] at h1
  rw [if_neg (by omega)] at h2
  exact ⟨h1, h2⟩
theorem dg_le {s : Nat} (h : dg s = true) : 48 ≤ s ∧ s ≤ 51 := by
  unfold dg at h
  rw [Bool.and_eq_true] at h
  exact ⟨of_decide_eq_true h.1, of_decide_eq_true h.2⟩
theorem pgC_lt (hO : okP p S) {k : Nat} (hk : k < p / 2) : pgC S k < 16 := by
  obtain ⟨h1, h2⟩ := okP_k hO hk
  have := dg_le h2
  unfold pgC
  omega
theorem pgW (hW : WP L P) (hO : okP p S) (t : Nat) : WP (pgL t p L) (pgP S t p P) := fun u hu => by
  have h12 := hO.1
  unfold pgL pgP
  by_cases e : u = t
  · rw [if_pos e]
    refine ⟨by omega, fun s hs => ?_⟩
    rw [if_pos e, if_pos hs]
    exact pgC_lt hO hs
  · rw [if_neg e]
    refine ⟨(hW u hu).1, fun s hs => ?_⟩
    rw [if_neg e]
    exact (hW u hu).2 s hs
theorem pgN (hN : CN L P) {t : Nat} (ht : t < 4) : CN (pgL t p L) (pgP S t p P) := by
  refine ⟨fun u hu => ?_, fun u s h => ?_⟩
  · unfold pgL
    rw [if_neg (by omega)]
    exact hN.1 u hu
  · unfold pgP
    by_cases e : u = t
    · rw [if_pos e, if_neg]
      rcases h with h | h
      · omega
      · unfold pgL at h
        rw [if_pos e] at h
        omega
    · rw [if_neg e]
      refine hN.2 u s ?_
      rcases h with h | h
      · exact Or.inl h
      · unfold pgL at h
        rw [if_neg e] at h
        exact Or.inr h
theorem v_readP (hS : SK p S) (hO : okP p S) (hW : WP L P) {t : Nat} (ht : t < 4) {w : Wd} (hX : PX w p S) (hR : RP w 9 L P) : ∃ w', f_X2_readProgram 9 (nI t) 0 w = some w' ∧ Fr (SPg 9) w w' ∧ RP w' 9 (pgL t p L) (pgP S t p P) := by
  have h12 := hO.1
  have h2 := hO.2.1
  have lp : ∀ (m k : Nat) (w : Wd), m + k = p / 2 → PX w p S → w.1 12 9 t = nI k → (∀ j, j < k → w.1 11 9 (t * 6 + j) = nI (pgC S j)) → (∀ u, u < 4 → u ≠ t → w.1 12 9 u = nI (L u) ∧ ∀ s, s < L u → w.1 11 9 (u * 6 + s) = nI (P u s)) →
      ∃ w', x_X2_readProgram 9 [] [some (zr 2 9), some (zi (nI t)), some (zr 1 0), some (zi (nI (2 * k)))] w = some w' ∧ Fr (SPg 9) w w' ∧ RP w' 9 (pgL t p L) (pgP S t p P) := by
    intro m
    induction m with
    | zero =>
      intro k w hm hX h12' h11 hoth
      have hk : k = p / 2 := by omega
      refine ⟨w, ?_, Fr.rf, fun u hu => ?_, fun u s hu hs => ?_⟩
      · rw [e_X2_readProgram_9, e_X1_length, hX.1, joc]
        simp (disch := omega) only [jl, nI_add, jle]
        rw [if_pos (by omega)]
      · unfold pgL
        by_cases e : u = t
        · rw [if_pos e, e, h12', hk]
        · rw [if_neg e]
          exact (hoth u hu e).1
      · unfold pgL at hs
        unfold pgP
        by_cases e : u = t
        · rw [if_pos e] at hs ⊢
          rw [if_pos hs, e]
          exact h11 s (by omega)
        · rw [if_neg e] at hs ⊢
          exact (hoth u hu e).2 s hs
    | succ m ih =>
      intro k w hm hX h12' h11 hoth
      have hk : k < p / 2 := by omega
      obtain ⟨k1, k2⟩ := okP_k hO hk
      have k3 := dg_le k2
      have f1 : Fr (SPg 9) w (wI (wI w 11 9 (t * 6 + k) (nI (pgC S k))) 12 9 t (nI (k + 1))) := (Fr.rf.wI (SPg_11 9)).wI (SPg_12 9)
      obtain ⟨w', a1, a2, a3⟩ := ih (k + 1) _ (by omega) (PX_fr f1 rfl rfl hX) (by rw [jw1, if_pos ⟨rfl, rfl, rfl⟩]) (fun j hj => by
        rw [jw1, if_neg (by omega), jw1]
        by_cases e : j = k
        · rw [if_pos ⟨rfl, rfl, by rw [e]⟩, e]
        · rw [if_neg (by omega)]
          exact h11 j (by omega)) (fun u hu hne => by
        have hLu := (hW u hu).1
        refine ⟨?_, fun s hs => ?_⟩
        · rw [jw1, if_neg (by omega), jw1, if_neg (by omega)]
          exact (hoth u hu hne).1
        · rw [jw1, if_neg (by omega), jw1, if_neg (by omega)]
          exact (hoth u hu hne).2 s hs)
      refine ⟨w', ?_, f1.tr a2, a3⟩
      rw [← a1, e_X2_readProgram_9, e_X1_length, hX.1, joc]
      simp only [jl, nI_add]
      rw [v_kindAt hS hX (show 2 * k < p by omega), if_pos k1, joc, v_digitAt hS hX (show 2 * k + 1 < p by omega) k2, joc, v_codeOf k1 (show S (2 * k + 1) - 48 < 4 by omega), joc]
      have ea : f_X2_append 9 (nI t) (nI (4 * kd (S (2 * k)) + (S (2 * k + 1) - 48))) w = some (wI (wI w 11 9 (t * 6 + k) (nI (pgC S k))) 12 9 t (nI (k + 1))) := v_pappend ht h12' (by omega)
      rw [ea, joc]
      simp (disch := omega) only [jle]
      rw [if_neg (by omega)]
      rfl
  have f0 : Fr (SPg 9) w (wI w 12 9 t (nI 0)) := Fr.rf.wI (SPg_12 9)
  obtain ⟨w', a1, a2, a3⟩ := lp (p / 2) 0 (wI w 12 9 t (nI 0)) rfl (PX_fr f0 rfl rfl hX) (by rw [jw1, if_pos ⟨rfl, rfl, rfl⟩]) (fun j hj => by omega) (fun u hu hne => ⟨by rw [jw1, if_neg (by omega)]; exact hR.1 u hu, fun s hs => by rw [jw1, if_neg (by omega)]; exact hR.2 u s hu hs⟩)
  refine ⟨w', ?_, f0.tr a2, a3⟩
  rw [← a1, e_X2_readProgram]
  simp (disch := omega) only [jl, jchk, jcl]
end PM'
