/-! HOW MANY RUNS ARE ALIKE, and chains. -/
section OC
variable {L : Nat → Nat} {P : Nat → Nat → Nat} {n : Nat} {R Q : Nat → Nat}
theorem q4_one {f : Nat → Nat} {t : Nat} (ht : t < 4) : f t ≤ q4 f := by
  unfold q4
  rcases four ht with rfl | rfl | rfl | rfl <;> omega
theorem q4_two {f : Nat → Nat} {t u : Nat} (ht : t < 4) (hu : u < 4) (hne : t ≠ u) : f t + f u ≤ q4 f := by
  unfold q4
  rcases four ht with rfl | rfl | rfl | rfl <;> rcases four hu with rfl | rfl | rfl | rfl <;> omega
theorem zW_one {fg : Nat → Nat} {go : Nat → Nat → Bool} {i t : Nat} (ht : t < 4) (hf : 0 < fg t) (hg : go i t = true) : zW fg go i ≤ zW fg go (i + fg t) := by
  rw [zW_eq fg go (i + fg t)]
  have h := q4_one (f := fun t' => if 0 < fg t' ∧ fg t' ≤ i + fg t ∧ go (i + fg t - fg t') t' = true then zW fg go (i + fg t - fg t') else 0) ht
  rw [show i + fg t - fg t = i by omega, if_pos ⟨hf, by omega, hg⟩] at h
  omega
theorem zW_two {fg : Nat → Nat} {go : Nat → Nat → Bool} {i j t u : Nat} (ht : t < 4) (hu : u < 4) (hne : t ≠ u) (hft : 0 < fg t) (hfu : 0 < fg u) (hgt : go i t = true) (hgu : go j u = true) (he : i + fg t = j + fg u) : zW fg go i + zW fg go j ≤ zW fg go (i + fg t) := by
  rw [zW_eq fg go (i + fg t)]
  have h := q4_two (f := fun t' => if 0 < fg t' ∧ fg t' ≤ i + fg t ∧ go (i + fg t - fg t') t' = true then zW fg go (i + fg t - fg t') else 0) ht hu hne
  rw [show i + fg t - fg t = i by omega, if_pos ⟨hft, by omega, hgt⟩, show i + fg t - fg u = j by omega, if_pos ⟨hfu, by omega, hgu⟩] at h
  omega
/-- a row's stands -/
theorem LE_st (hW : WP L P) (hV : VR L P n R) (h : LE P R n Q) {i : Nat} (hi : i ≤ n) : stN g8 Q i < 4096 ∧ d8 (stN g8 Q i) = sd Q i := by
  have hs := st_gen ds8 (Q := Q) i fun j hj => ⟨h.1 j (by omega), by
    have h1 := mgB_lt (h.2 j (by omega))
    have h2 : sd Q j (Q j) < dn R (Q j) n := h1
    have h3 := VR_dn hW hV (Nat.le_refl n) (h.1 j (by omega))
    have h4 := (hW (Q j) (h.1 j (by omega))).1
    have h5 : dn Q (Q j) j = sd Q j (Q j) := rfl
    omega⟩
  refine ⟨hs.1, ?_⟩
  funext u
  by_cases hu : u < 4
  · exact hs.2 u hu
  · show d8 _ u = dn Q u i
    rw [dn_big h.1 (by omega) i hi]
    unfold d8
    rw [if_neg hu]
def gM (P : Nat → Nat → Nat) (R : Nat → Nat) (n : Nat) : Nat → Nat → Bool := fun i t => goM P R n (d8 i) t
theorem WO8_def : WO8 P R n = zW g8 (gM P R n) := rfl
theorem g8_pos (t : Nat) : 0 < g8 t := Nat.pow_pos (by decide)
theorem LE_gM (hW : WP L P) (hV : VR L P n R) (h : LE P R n Q) {i : Nat} (hi : i < n) : gM P R n (stN g8 Q i) (Q i) = true := by
  unfold gM goM
  rw [(LE_st hW hV h (show i ≤ n by omega)).2]
  exact h.2 i hi
theorem LE_pos (hW : WP L P) (hV : VR L P n R) (h : LE P R n Q) : ∀ i, i ≤ n → 1 ≤ WO8 P R n (stN g8 Q i)
  | 0, _ => by
    show 1 ≤ WO8 P R n 0
    rw [WO8_def, zW_0]
    exact Nat.le_refl _
  | i + 1, hi => Nat.le_trans (LE_pos hW hV h i (by omega)) (zW_one (h.1 i (by omega)) (g8_pos _) (LE_gM hW hV h (by omega)))
theorem two_ways (hW : WP L P) (hV : VR L P n R) {A B : Nat → Nat} (hA : LE P R n A) (hB : LE P R n B) : ∀ i, i ≤ n → (∃ k, k < i ∧ A k ≠ B k) → stN g8 A i = stN g8 B i → 2 ≤ WO8 P R n (stN g8 A i)
  | 0, _, h, _ => by obtain ⟨k, hk, -⟩ := h; omega
  | i + 1, hi, ⟨k, hk, hne⟩, he => by
    have gA := LE_gM hW hV hA (show i < n by omega)
    have gB := LE_gM hW hV hB (show i < n by omega)
    have he' : stN g8 A i + g8 (A i) = stN g8 B i + g8 (B i) := he
    show 2 ≤ WO8 P R n (stN g8 A i + g8 (A i))
    by_cases e : A i = B i
    · have hs : stN g8 A i = stN g8 B i := by rw [e] at he'; omega
      have hki : k < i := by
        by_cases e2 : k = i
        · rw [e2] at hne; exact absurd e hne
        · omega
      exact Nat.le_trans (two_ways hW hV hA hB i (by omega) ⟨k, hki, hne⟩ hs) (zW_one (hA.1 i (by omega)) (g8_pos _) gA)
    · have h1 := LE_pos hW hV hA i (by omega)
      have h2 := LE_pos hW hV hB i (by omega)
      have h3 := zW_two (fg := g8) (go := gM P R n) (hA.1 i (by omega)) (hB.1 i (by omega)) e (g8_pos _) (g8_pos _) gA gB he'
      rw [WO8_def] at h1 h2 ⊢
      omega
/-- the number of runs that are alike to one -/
def wy (P : Nat → Nat → Nat) (R : Nat → Nat) (n : Nat) : Nat := WO8 P R n (stN g8 R n)
theorem wy_pos (hW : WP L P) (hV : VR L P n R) : 1 ≤ wy P R n := LE_pos hW hV (self_LE hV.2.1) n (Nat.le_refl _)
theorem wy_two (hW : WP L P) (hV : VR L P n R) {k : Nat} (hk : k < n) (hne : LR P R n k ≠ R k) : 2 ≤ wy P R n := by
  have e := (LR_end hW hV (Nat.le_refl n)).mpr rfl
  have h := two_ways hW hV (LR_LE (P := P) hV.2.1) (self_LE hV.2.1) n (Nat.le_refl _) ⟨k, hk, hne⟩ e
  rw [e] at h
  exact h
theorem wy_LR (hW : WP L P) (hV : VR L P n R) : wy P (LR P R n) n = wy P R n := by
  unfold wy
  rw [Pm_WO (LR_Pm hV), (LR_end hW hV (Nat.le_refl n)).mpr rfl]
theorem wy_lt (hW : WP L P) (hV : VR L P n R) : wy P R n < 9223372036854775808 := by
  have h := gn_small ds8 (mgB_GL hW hV) (i := stN g8 R n) (by
    have := (LE_st hW hV (self_LE hV.2.1) (Nat.le_refl n)).1
    exact this)
  have h : wy P R n < 281474976710657 := h
  omega
theorem wy_0 : wy P R 0 = 1 := by
  unfold wy
  show WO8 P R 0 0 = 1
  rw [WO8_def, zW_0]
/-! chains -/
theorem ch_wh : ∀ i, wh R i + 1 ≤ ch P R i := by
  intro i
  induction i using Nat.strongRecOn with
  | ind i ih =>
    by_cases h0 : wh R i = 0
    · rw [ch_eq]; omega
    · obtain ⟨j, h1, h2, h3⟩ := ix_ex (R := R) (t := R i) (s := wh R i - 1) i (by
        show wh R i - 1 < wh R i
        omega)
      have h4 := ih j h1
      have h5 := ch_lt (P := P) (R := R) h1 (by
        unfold td
        rw [h2]
        simp)
      omega
theorem chain_ge {t : Nat} : dn R t n ≤ mxA (ch P R) n := by
  by_cases h0 : dn R t n = 0
  · rw [h0]; exact Nat.zero_le _
  · obtain ⟨i, h1, h2, h3⟩ := ix_ex (R := R) (t := t) (s := dn R t n - 1) n (by omega)
    have h4 := ch_wh (P := P) (R := R) i
    have h5 := mxA_ge (f := ch P R) n i h1
    omega
theorem chain_le : mxA (ch P R) n ≤ n := mxA_le n fun i hi => by
  have := ch_le_self (P := P) (R := R) i
  omega
theorem mxA_in {f : Nat → Nat} : ∀ m, mxA f m = 0 ∨ ∃ i, i < m ∧ f i = mxA f m
  | 0 => Or.inl rfl
  | m + 1 => by
    rw [mxA]
    by_cases h : mxA f m < f m
    · rw [if_pos h]
      exact Or.inr ⟨m, by omega, rfl⟩
    · rw [if_neg h]
      rcases mxA_in (f := f) m with h0 | ⟨i, h1, h2⟩
      · exact Or.inl h0
      · exact Or.inr ⟨i, by omega, h2⟩
theorem ch_back {j : Nat} (hj : 0 < j) (h : ch P R j = j + 1) : td P R (j - 1) j = true ∧ ch P R (j - 1) = j - 1 + 1 := by
  rw [ch_eq] at h
  rcases mxT_in (P := P) (R := R) (f := ch P R) (k := j) j with h0 | ⟨i, h1, h2, h3⟩
  · omega
  · have h4 := ch_le_self (P := P) (R := R) i
    have e : i = j - 1 := by omega
    subst e
    exact ⟨h2, by omega⟩
theorem ch_all (h : mxA (ch P R) n = n) : ∀ k j, j + k + 1 = n → ch P R j = j + 1 := by
  intro k
  induction k with
  | zero =>
    intro j hj
    rcases mxA_in (f := ch P R) n with h0 | ⟨i, h1, h2⟩
    · omega
    · have h3 := ch_le_self (P := P) (R := R) i
      have e : i = j := by omega
      subst e
      omega
  | succ k ih =>
    intro j hj
    have h1 := ih (j + 1) (by omega)
    have h2 := (ch_back (by omega) h1).2
    rw [show j + 1 - 1 = j by omega] at h2
    exact h2
theorem one_go (h : mxA (ch P R) n = n) {i t : Nat} (hm : mgB P R (sd R i) t n = true) : i < n ∧ t = R i := by
  obtain ⟨j, h1, h2, h3⟩ := (mgB_iff n).mp hm
  have hw := cnB_wh h3
  unfold cnB at h3
  rw [Bool.and_eq_true] at h3
  have ha := (alT_iff j).mp h3.2
  have hji : i ≤ j := by
    by_cases hlt : j < i
    · exfalso
      have h4 := dn_le (R := R) (t := R j) (show j + 1 ≤ i from hlt)
      have h5 : dn R (R j) (j + 1) = dn R (R j) j + 1 := by rw [dn, if_pos rfl]
      have h6 : wh R j = dn R (R j) j := rfl
      have h7 : sd R i (R j) = dn R (R j) i := rfl
      omega
    · omega
  by_cases e : j = i
  · subst e
    exact ⟨h1, h2.symm⟩
  · exfalso
    have hc := ch_all h (n - j - 1) j (by omega)
    have ht := (ch_back (by omega) hc).1
    have h4 := ha (j - 1) (by omega) ht
    have h5 : sd R i (R (j - 1)) = dn R (R (j - 1)) i := rfl
    have h6 : wh R (j - 1) = dn R (R (j - 1)) (j - 1) := rfl
    have h7 := dn_le (R := R) (t := R (j - 1)) (show i ≤ j - 1 by omega)
    omega
theorem stN_lt {fg : Nat → Nat} (hf : ∀ t, 0 < fg t) {a b : Nat} (h : a < b) : stN fg R a < stN fg R b := by
  induction h with
  | refl =>
    have := hf (R a)
    rw [stN]
    omega
  | step _ ih =>
    rename_i m _
    have := hf (R m)
    rw [stN]
    omega
theorem wy_chain (hW : WP L P) (hV : VR L P n R) (h : mxA (ch P R) n = n) : wy P R n = 1 := by
  have hL := self_LE (P := P) hV.2.1
  have only : ∀ c, zW g8 (gM P R n) c ≠ 0 → ∃ i, i ≤ n ∧ c = stN g8 R i := by
    intro c
    induction c using Nat.strongRecOn with
    | ind c ih =>
      intro hz
      rcases zW_pred hz with rfl | ⟨t, ht, h1, h2, h3, h4⟩
      · exact ⟨0, Nat.zero_le _, rfl⟩
      · obtain ⟨i, g1, g2⟩ := ih (c - g8 t) (by omega) h4
        unfold gM goM at h3
        rw [g2, (LE_st hW hV hL g1).2] at h3
        obtain ⟨k1, k2⟩ := one_go h h3
        refine ⟨i + 1, k1, ?_⟩
        rw [stN, ← g2, ← k2]
        omega
  have one : ∀ i, i ≤ n → zW g8 (gM P R n) (stN g8 R i) = 1 := by
    intro i
    induction i with
    | zero => intro _; exact zW_0
    | succ i ih =>
      intro hi
      have hp := g8_pos (R i)
      have e0 : stN g8 R (i + 1) = stN g8 R i + g8 (R i) := rfl
      rw [zW_eq, if_neg (by omega), Nat.zero_add]
      have hq : q4 (fun t => if 0 < g8 t ∧ g8 t ≤ stN g8 R (i + 1) ∧ gM P R n (stN g8 R (i + 1) - g8 t) t = true then zW g8 (gM P R n) (stN g8 R (i + 1) - g8 t) else 0) = q4 (fun _ => 0) + 1 := by
        refine q4_add (hL.1 i (by omega)) ?_ fun t ht hne => ?_
        · have e1 : stN g8 R (i + 1) - g8 (R i) = stN g8 R i := by omega
          rw [e1, if_pos ⟨hp, by omega, LE_gM hW hV hL (by omega)⟩, ih (by omega)]
        · by_cases hc : 0 < g8 t ∧ g8 t ≤ stN g8 R (i + 1) ∧ gM P R n (stN g8 R (i + 1) - g8 t) t = true
          · rw [if_pos hc]
            by_cases hz : zW g8 (gM P R n) (stN g8 R (i + 1) - g8 t) = 0
            · exact hz
            · exfalso
              obtain ⟨j, k1, k2⟩ := only _ hz
              have h3 := hc.2.2
              unfold gM goM at h3
              rw [k2, (LE_st hW hV hL k1).2] at h3
              obtain ⟨m1, m2⟩ := one_go h h3
              have e2 : stN g8 R (j + 1) = stN g8 R (i + 1) := by
                show stN g8 R j + g8 (R j) = _
                rw [← k2, ← m2]
                omega
              rcases Nat.lt_trichotomy j i with q | q | q
              · have := stN_lt (R := R) g8_pos (show j + 1 < i + 1 by omega); omega
              · rw [q] at m2; exact hne m2
              · have := stN_lt (R := R) g8_pos (show i + 1 < j + 1 by omega); omega
          · rw [if_neg hc]
      rw [hq]
      rfl
  exact one n (Nat.le_refl _)
end OC
