/-! COUNTING for any way to go; THE LEAST RUN, as both seek it. -/
section GN
variable {N : Nat} {fg : Nat → Nat} {dg : Nat → Nat → Nat} {go : (Nat → Nat) → Nat → Bool} {M : Nat → Nat}
def GL (go : (Nat → Nat) → Nat → Bool) (M : Nat → Nat) : Prop := ∀ s t, t < 4 → go s t = true → s t < M t ∧ M t ≤ 6
theorem gn_reach (hD : DS N fg dg) (hG : GL go M) : ∀ i, i < N → zW fg (fun i t => go (dg i) t) i ≠ 0 → ∀ u, u < 4 → dg i u ≤ 6 := by
  intro i
  induction i using Nat.strongRecOn with
  | ind i ih =>
    intro hi h u hu
    rcases zW_pred h with rfl | ⟨t, ht, hf, hle, hg, hne⟩
    · rw [hD.2.1 u hu]; exact Nat.zero_le _
    · have hlt := hG _ t ht hg
      have h1 := ih (i - fg t) (by omega) (by omega) hne u hu
      have h2 := (hD.2.2.2 (i - fg t) t (by omega) ht (by omega)).2 u hu
      rw [show i - fg t + fg t = i by omega] at h2
      rw [h2]
      split
      · rename_i e
        subst e
        omega
      · omega
theorem gn_bound (hD : DS N fg dg) (hG : GL go M) : ∀ i, i < N → zW fg (fun i t => go (dg i) t) i ≤ 4 ^ len4 (dg i) := by
  intro i
  induction i using Nat.strongRecOn with
  | ind i ih =>
    intro hi
    by_cases h0 : i = 0
    · rw [h0, zW_0]
      exact Nat.pow_pos (by decide)
    · by_cases hz : zW fg (fun i t => go (dg i) t) i = 0
      · rw [hz]; exact Nat.zero_le _
      · obtain ⟨t, ht, hf, hle, hg, hne⟩ := (zW_pred hz).resolve_left h0
        have hl := ds_len hD (i := i - fg t) (t := t) (by omega) ht (by have := hG _ t ht hg; omega)
        rw [show i - fg t + fg t = i by omega] at hl
        rw [zW_eq, if_neg h0, Nat.zero_add, hl, Nat.pow_succ, Nat.mul_comm]
        refine q4_le fun u hu => ?_
        by_cases hc : 0 < fg u ∧ fg u ≤ i ∧ go (dg (i - fg u)) u = true
        · rw [if_pos hc]
          have hlu := ds_len hD (i := i - fg u) (t := u) (by omega) hu (by have := hG _ u hu hc.2.2; omega)
          rw [show i - fg u + fg u = i by omega] at hlu
          rw [show len4 (dg (i - fg t)) = len4 (dg (i - fg u)) by omega]
          exact ih (i - fg u) (by omega) (by omega)
        · rw [if_neg hc]; exact Nat.zero_le _
theorem gn_small (hD : DS N fg dg) (hG : GL go M) {i : Nat} (hi : i < N) : zW fg (fun i t => go (dg i) t) i < 281474976710657 := by
  by_cases hz : zW fg (fun i t => go (dg i) t) i = 0
  · rw [hz]; decide
  · have hr := gn_reach hD hG i hi hz
    have hb := gn_bound hD hG i hi
    have h0 := hr 0 (by decide)
    have h1 := hr 1 (by decide)
    have h2 := hr 2 (by decide)
    have h3 := hr 3 (by decide)
    have hl : len4 (dg i) ≤ 24 := by unfold len4; omega
    have : 4 ^ len4 (dg i) ≤ 4 ^ 24 := Nat.pow_le_pow_right (by decide) hl
    omega
theorem gback7 (hG : GL go M) {n t : Nat} (hn : n < 2401) (ht : t < 4) (h : 0 < g7 t ∧ g7 t ≤ n ∧ go (d7 (n - g7 t)) t = true) : 0 < d7 n t := by
  have hlt := hG _ t ht h.2.2
  have h2 := (ds7.2.2.2 (n - g7 t) t (by omega) ht (by omega)).2 t ht
  rw [show n - g7 t + g7 t = n by omega, if_pos rfl] at h2
  omega
theorem gback8 (hG : GL go M) {c t : Nat} (hc : c < 4096) (ht : t < 4) (h : 0 < g8 t ∧ g8 t ≤ c ∧ go (d8 (c - g8 t)) t = true) : 0 < d8 c t := by
  have hlt := hG _ t ht h.2.2
  have h2 := (ds8.2.2.2 (c - g8 t) t (by omega) ht (by omega)).2 t ht
  rw [show c - g8 t + g8 t = c by omega, if_pos rfl] at h2
  omega
theorem gback_iff (hG : GL go M) {n t : Nat} (hn : n < 2401) (ht : t < 4) :
    (0 < g8 t ∧ g8 t ≤ eN n ∧ go (d8 (eN n - g8 t)) t = true) ↔ (0 < g7 t ∧ g7 t ≤ n ∧ go (d7 (n - g7 t)) t = true) := by
  have hlt := eN_lt hn
  constructor
  · intro h
    have hd := gback8 hG (by omega) ht h
    rw [eN_dig hn] at hd
    obtain ⟨h1, h2⟩ := eN_pred hn ht hd
    refine ⟨(g7_pos t).1, h1, ?_⟩
    have h3 := h.2.2
    rw [show eN n - g8 t = eN (n - g7 t) by omega, eN_dig (by omega)] at h3
    exact h3
  · intro h
    have hd := gback7 hG hn ht h
    obtain ⟨h1, h2⟩ := eN_pred hn ht hd
    refine ⟨Nat.pow_pos (by decide), by omega, ?_⟩
    rw [show eN n - g8 t = eN (n - g7 t) by omega, eN_dig (by omega)]
    exact h.2.2
theorem gW_eN (hG : GL go M) : ∀ n, n < 2401 → zW g8 (fun i t => go (d8 i) t) (eN n) = zW g7 (fun i t => go (d7 i) t) n := by
  intro n
  induction n using Nat.strongRecOn with
  | ind n ih =>
    intro hn
    rw [zW_eq, zW_eq]
    congr 1
    · by_cases h0 : n = 0
      · subst h0; rfl
      · have := eN_mono (show 0 < n by omega)
        rw [if_neg h0, if_neg (by omega)]
    · refine q4_congr fun t ht => ?_
      by_cases h : 0 < g7 t ∧ g7 t ≤ n ∧ go (d7 (n - g7 t)) t = true
      · rw [if_pos h, if_pos ((gback_iff hG hn ht).mpr h)]
        obtain ⟨h1, h2⟩ := eN_pred hn ht (gback7 hG hn ht h)
        rw [show eN n - g8 t = eN (n - g7 t) by omega]
        exact ih (n - g7 t) (by omega) (by omega)
      · rw [if_neg h, if_neg (fun z => h ((gback_iff hG hn ht).mp z))]
/-- a run's stands, where no figure overflows -/
theorem st_gen (hD : DS N fg dg) {Q : Nat → Nat} : ∀ i, (∀ j, j < i → Q j < 4 ∧ dn Q (Q j) j < 6) → stN fg Q i < N ∧ ∀ u, u < 4 → dg (stN fg Q i) u = dn Q u i
  | 0, _ => ⟨hD.1, hD.2.1⟩
  | i + 1, h => by
    obtain ⟨h1, h2⟩ := st_gen hD (Q := Q) i (fun j hj => h j (by omega))
    obtain ⟨ht, h6⟩ := h i (by omega)
    obtain ⟨s1, s2⟩ := hD.2.2.2 _ (Q i) h1 ht (by rw [h2 _ ht]; exact h6)
    refine ⟨s1, fun u hu => ?_⟩
    rw [stN, s2 u hu, h2 u hu, dn]
    congr 1
    by_cases e : u = Q i
    · rw [if_pos e, if_pos e.symm]
    · rw [if_neg e, if_neg (fun z => e z.symm)]
end GN
section LS
variable (P : Nat → Nat → Nat) (R : Nat → Nat) (n : Nat)
def ltR (s : Nat → Nat) : Nat := if mgB P R s 0 n = true then 0 else if mgB P R s 1 n = true then 1 else if mgB P R s 2 n = true then 2 else if mgB P R s 3 n = true then 3 else 4
def lpS : Nat → Nat → Nat
  | 0, _ => 0
  | i + 1, u => lpS i u + if ltR P R n (lpS i) = u then 1 else 0
/-- the least run -/
def LR (i : Nat) : Nat := ltR P R n (lpS P R n i)
variable {P : Nat → Nat → Nat} {R : Nat → Nat} {n : Nat}
theorem lpS_dn (u : Nat) : ∀ i, lpS P R n i u = dn (LR P R n) u i
  | 0 => rfl
  | i + 1 => by rw [lpS, dn, lpS_dn u i]; rfl
theorem ltR_mg {s : Nat → Nat} (h : ltR P R n s < 4) : mgB P R s (ltR P R n s) n = true ∧ ∀ t, t < ltR P R n s → mgB P R s t n = false := by
  unfold ltR at h ⊢
  cases h0 : mgB P R s 0 n with
  | true => exact ⟨h0, fun t ht => by simp at ht⟩
  | false =>
    cases h1 : mgB P R s 1 n with
    | true =>
      refine ⟨h1, fun t ht => ?_⟩
      simp at ht
      rw [ht]; exact h0
    | false =>
      cases h2 : mgB P R s 2 n with
      | true =>
        refine ⟨h2, fun t ht => ?_⟩
        simp at ht
        rcases (show t = 0 ∨ t = 1 by omega) with rfl | rfl
        · exact h0
        · exact h1
      | false =>
        cases h3 : mgB P R s 3 n with
        | true =>
          refine ⟨h3, fun t ht => ?_⟩
          simp at ht
          rcases (show t = 0 ∨ t = 1 ∨ t = 2 by omega) with rfl | rfl | rfl
          · exact h0
          · exact h1
          · exact h2
        | false =>
          rw [h0, h1, h2, h3] at h
          simp at h
theorem ltR_ex {s : Nat → Nat} {t : Nat} (ht : t < 4) (h : mgB P R s t n = true) : ltR P R n s < 4 := by
  unfold ltR
  cases h0 : mgB P R s 0 n with
  | true => simp
  | false =>
    cases h1 : mgB P R s 1 n with
    | true => simp
    | false =>
      cases h2 : mgB P R s 2 n with
      | true => simp
      | false =>
        cases h3 : mgB P R s 3 n with
        | true => simp
        | false => rcases four ht with rfl | rfl | rfl | rfl <;> simp_all
theorem dn_len (hR : ∀ i, i < n → R i < 4) : ∀ i, i ≤ n → len4 (fun u => dn R u i) = i
  | 0, _ => rfl
  | i + 1, h => by
    have ih := dn_len hR i (by omega)
    have ht := hR i (by omega)
    unfold len4 at ih ⊢
    dsimp only at ih
    simp only [dn]
    rcases four ht with e | e | e | e <;> rw [e] <;> simp <;> omega
/-- the first step that is not done can come next -/
theorem first_free {s : Nat → Nat} : ∀ m, m ≤ n → (∀ j, j < m → wh R j < s (R j)) ∨ ∃ k, k < m ∧ cnB P R s k = true
  | 0, _ => Or.inl fun j hj => by omega
  | m + 1, hm => by
    rcases first_free (s := s) m (by omega) with h | ⟨k, h1, h2⟩
    · by_cases hw : wh R m < s (R m)
      · left
        intro j hj
        by_cases e : j = m
        · rw [e]; exact hw
        · exact h j (by omega)
      · right
        refine ⟨m, by omega, ?_⟩
        have hww : wh R m = s (R m) := by
          by_cases e : wh R m = s (R m)
          · exact e
          · exfalso
            obtain ⟨i, h1, h2, h3⟩ := ix_ex (R := R) (t := R m) (s := s (R m)) m (by
              show s (R m) < wh R m
              omega)
            have := h i h1
            rw [h2, h3] at this
            omega
        unfold cnB
        rw [(alT_iff (P := P) m).mpr fun j hj _ => h j hj]
        simp [hww]
    · exact Or.inr ⟨k, by omega, h2⟩
theorem lp_all (hR : ∀ i, i < n → R i < 4) : ∀ i, i ≤ n → (∀ u, u < 4 → lpS P R n i u ≤ dn R u n) ∧ len4 (lpS P R n i) = i ∧ (i < n → LR P R n i < 4)
  | 0, _ => by
    refine ⟨fun u _ => Nat.zero_le _, rfl, fun hi => ?_⟩
    rcases first_free (P := P) (R := R) (s := lpS P R n 0) n (Nat.le_refl _) with h | ⟨k, h1, h2⟩
    · have := h 0 hi
      exact absurd this (Nat.not_lt_zero _)
    · exact ltR_ex (hR k h1) ((mgB_iff n).mpr ⟨k, h1, rfl, h2⟩)
  | i + 1, hi => by
    obtain ⟨h1, h2, h3⟩ := lp_all hR i (by omega)
    have hlt := h3 (by omega)
    obtain ⟨g1, -⟩ := ltR_mg (P := P) (R := R) (n := n) hlt
    have g2 := mgB_lt g1
    have hle : ∀ u, u < 4 → lpS P R n (i + 1) u ≤ dn R u n := fun u hu => by
      rw [lpS]
      by_cases e : ltR P R n (lpS P R n i) = u
      · rw [if_pos e, ← e]
        exact g2
      · rw [if_neg e]
        exact h1 u hu
    have hlen : len4 (lpS P R n (i + 1)) = i + 1 := by
      have hlt' : ltR P R n (lpS P R n i) < 4 := hlt
      unfold len4 at h2 ⊢
      simp only [lpS]
      generalize hx : ltR P R n (lpS P R n i) = x at hlt'
      rcases four hlt' with e | e | e | e <;> rw [e] <;> simp <;> omega
    refine ⟨hle, hlen, fun hi2 => ?_⟩
    rcases first_free (P := P) (R := R) (s := lpS P R n (i + 1)) n (Nat.le_refl _) with h | ⟨k, k1, k2⟩
    · exfalso
      have hl := dn_len hR n (Nat.le_refl _)
      unfold len4 at hl hlen
      dsimp only at hl
      have hex : ∃ u, u < 4 ∧ lpS P R n (i + 1) u < dn R u n := by
        have q0 := hle 0 (by decide)
        have q1 := hle 1 (by decide)
        have q2 := hle 2 (by decide)
        have q3 := hle 3 (by decide)
        by_cases c0 : lpS P R n (i + 1) 0 < dn R 0 n
        · exact ⟨0, by decide, c0⟩
        · by_cases c1 : lpS P R n (i + 1) 1 < dn R 1 n
          · exact ⟨1, by decide, c1⟩
          · by_cases c2 : lpS P R n (i + 1) 2 < dn R 2 n
            · exact ⟨2, by decide, c2⟩
            · exact ⟨3, by decide, by omega⟩
      obtain ⟨u, hu, hlt⟩ := hex
      obtain ⟨k, k1, k2, k3⟩ := ix_ex n hlt
      have := h k k1
      rw [k2, k3] at this
      omega
    · exact ltR_ex (hR k k1) ((mgB_iff n).mpr ⟨k, k1, rfl, k2⟩)
end LS
