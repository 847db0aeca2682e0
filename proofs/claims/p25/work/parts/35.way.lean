/-! A WAY TO A NEAREST DEADLOCK: what both seek. -/
section WY
def PC (m c : Nat) : Prop := m ≤ 2401 ∧ ∀ n, n < 2401 → (eN n < c ↔ n < m)
theorem PC_0 : PC 0 0 := ⟨by decide, fun n _ => by omega⟩
theorem PC_end {m : Nat} (h : PC m 4096) : m = 2401 := by
  have h0 := h.1
  by_cases hm : m < 2401
  · have := (h.2 m hm).mp (eN_lt40 hm)
    omega
  · omega
variable {L : Nat → Nat} {P : Nat → Nat → Nat}
theorem PC_step (hW : WP L P) {m c : Nat} (h : PC m c) (hc : c < 4096) : (m < 2401 ∧ c = eN m ∧ PC (m + 1) (c + 1)) ∨ (W8 L P c = 0 ∧ PC m (c + 1)) := by
  obtain ⟨h0, hcm⟩ := h
  by_cases hex : ∃ n, n < 2401 ∧ eN n = c
  · obtain ⟨n, hn, rfl⟩ := hex
    left
    have hnm : n = m := by
      have h1 : ¬ n < m := fun h => by have := (hcm n hn).mpr h; omega
      rcases Nat.lt_or_ge m n with q | q
      · have h2 := eN_mono q
        have := (hcm m (by omega)).mp h2
        omega
      · omega
    subst hnm
    refine ⟨hn, rfl, by omega, fun i hi => ?_⟩
    rcases Nat.lt_trichotomy i n with q | q | q
    · have := eN_mono q; omega
    · subst q; omega
    · have := eN_mono q; omega
  · right
    refine ⟨?_, h0, fun n hn => ?_⟩
    · by_cases h : W8 L P c = 0
      · exact h
      · exact absurd (W8_img hW hc h) hex
    · rw [← hcm n hn]
      have : eN n ≠ c := fun e => hex ⟨n, hn, e⟩
      omega
/-- the least length of a deadlock -/
def shN (L : Nat → Nat) (P : Nat → Nat → Nat) : Nat → Option Nat
  | 0 => none
  | n + 1 => match shN L P n with
    | none => if dB7 L P n = true then some (len4 (d7 n)) else none
    | some m => if dB7 L P n = true then (if len4 (d7 n) < m then some (len4 (d7 n)) else some m) else some m
def oI : Option Nat → Int32
  | none => Int32.ofInt (-6)
  | some n => nI n
theorem len7_lt (n : Nat) : len4 (d7 n) ≤ 24 := by
  have h0 := d7_lt n 0
  have h1 := d7_lt n 1
  have h2 := d7_lt n 2
  have h3 := d7_lt n 3
  unfold len4
  omega
theorem sh_lt : ∀ n m, shN L P n = some m → m ≤ 24
  | 0, m, h => by cases h
  | n + 1, m, h => by
    unfold shN at h
    have hl := len7_lt n
    cases hs : shN L P n with
    | none =>
      rw [hs] at h
      dsimp only at h
      split at h
      · cases h; exact hl
      · cases h
    | some a =>
      rw [hs] at h
      dsimp only at h
      have := sh_lt n a hs
      split at h
      · split at h
        · cases h; exact hl
        · cases h; exact this
      · cases h; exact this
theorem sh_in : ∀ n m, n ≤ 2401 → shN L P n = some m → ∃ i, i < 2401 ∧ dB7 L P i = true ∧ len4 (d7 i) = m
  | 0, m, _, h => by cases h
  | n + 1, m, hn, h => by
    unfold shN at h
    cases hs : shN L P n with
    | none =>
      rw [hs] at h
      dsimp only at h
      split at h
      · rename_i hb
        cases h
        exact ⟨n, by omega, hb, rfl⟩
      · cases h
    | some a =>
      rw [hs] at h
      dsimp only at h
      have ih := sh_in n a (by omega) hs
      split at h
      · rename_i hb
        split at h
        · cases h; exact ⟨n, by omega, hb, rfl⟩
        · cases h; exact ih
      · cases h; exact ih
theorem oI_eq {a : Nat} (ha : a < 2147483648) {s : Option Nat} (hs : ∀ m, s = some m → m ≤ 24) : (nI a = oI s) = (s = some a) := by
  cases s with
  | none =>
    show (nI a = Int32.ofInt (-6)) = _
    rw [jm6 ha]
    simp
  | some m =>
    show (nI a = nI m) = _
    have := hs m rfl
    rw [jeq ha (by omega)]
    simp
    exact ⟨Eq.symm, Eq.symm⟩
/-- leads to a nearest deadlock -/
def bsN (L : Nat → Nat) (P : Nat → Nat → Nat) (n : Nat) : Bool := dB7 L P n && decide (shN L P 2401 = some (len4 (d7 n)))
def ldf (L : Nat → Nat) (P : Nat → Nat → Nat) : Nat → Nat → Bool
  | 0, _ => false
  | k + 1, n => decide (n < 2401) && !decide (W7 L P n = 0) && (((((bsN L P n || go7 L P n 0 && ldf L P k (n + g7 0))) || go7 L P n 1 && ldf L P k (n + g7 1)) || go7 L P n 2 && ldf L P k (n + g7 2)) || go7 L P n 3 && ldf L P k (n + g7 3))
def ldN (L : Nat → Nat) (P : Nat → Nat → Nat) (n : Nat) : Bool := ldf L P 2401 n
theorem ldf_st : ∀ k n, 2401 ≤ k + n → ldf L P k n = ldf L P (k + 1) n
  | 0, n, h => by
    unfold ldf
    simp [show ¬ n < 2401 by omega]
  | k + 1, n, h => by
    have st : ∀ t, ldf L P k (n + g7 t) = ldf L P (k + 1) (n + g7 t) := fun t => ldf_st k (n + g7 t) (by have := (g7_pos t).1; omega)
    rw [ldf, st, st, st, st]
    rfl
def lgN (L : Nat → Nat) (P : Nat → Nat → Nat) (n t : Nat) : Bool := go7 L P n t && ldN L P (n + g7 t)
def ldp (L : Nat → Nat) (P : Nat → Nat → Nat) (n : Nat) : Nat → Bool
  | 0 => bsN L P n
  | t + 1 => ldp L P n t || lgN L P n t
theorem ldN_eq {n : Nat} (hn : n < 2401) : ldN L P n = (!decide (W7 L P n = 0) && ldp L P n 4) := by
  unfold ldN
  rw [ldf_st 2401 n (by omega), ldf]
  simp only [hn, decide_true, Bool.true_and]
  rfl
/-- the least thread that leads on; 4 if there is none -/
def ltN (L : Nat → Nat) (P : Nat → Nat → Nat) (n : Nat) : Nat := if lgN L P n 0 = true then 0 else if lgN L P n 1 = true then 1 else if lgN L P n 2 = true then 2 else if lgN L P n 3 = true then 3 else 4
theorem ltN_ld {n : Nat} (hn : n < 2401) (hz : W7 L P n ≠ 0) : ldN L P n = (bsN L P n || decide (ltN L P n < 4)) := by
  rw [ldN_eq hn]
  unfold ltN ldp ldp ldp ldp ldp
  simp only [hz, decide_false, Bool.not_false, Bool.true_and]
  cases bsN L P n <;> cases lgN L P n 0 <;> cases lgN L P n 1 <;> cases lgN L P n 2 <;> cases lgN L P n 3 <;> rfl
theorem ltN_go {n : Nat} (h : ltN L P n < 4) : lgN L P n (ltN L P n) = true ∧ ∀ t, t < ltN L P n → lgN L P n t = false := by
  unfold ltN at h ⊢
  cases h0 : lgN L P n 0 with
  | true => exact ⟨h0, fun t ht => by simp at ht⟩
  | false =>
    cases h1 : lgN L P n 1 with
    | true =>
      refine ⟨h1, fun t ht => ?_⟩
      simp at ht
      rw [ht]; exact h0
    | false =>
      cases h2 : lgN L P n 2 with
      | true =>
        refine ⟨h2, fun t ht => ?_⟩
        simp at ht
        rcases (show t = 0 ∨ t = 1 by omega) with rfl | rfl
        · exact h0
        · exact h1
      | false =>
        cases h3 : lgN L P n 3 with
        | true =>
          refine ⟨h3, fun t ht => ?_⟩
          simp at ht
          rcases (show t = 0 ∨ t = 1 ∨ t = 2 by omega) with rfl | rfl | rfl
          · exact h0
          · exact h1
          · exact h2
        | false =>
          rw [h0, h1, h2, h3] at h
          simp at h
theorem ltN_no {n : Nat} (h : ¬ ltN L P n < 4) : ∀ t, t < 4 → lgN L P n t = false := fun t ht => by
  unfold ltN at h
  cases h0 : lgN L P n 0 with
  | true => rw [h0] at h; simp at h
  | false =>
    cases h1 : lgN L P n 1 with
    | true => rw [h0, h1] at h; simp at h
    | false =>
      cases h2 : lgN L P n 2 with
      | true => rw [h0, h1, h2] at h; simp at h
      | false =>
        cases h3 : lgN L P n 3 with
        | true => rw [h0, h1, h2, h3] at h; simp at h
        | false => rcases four ht with rfl | rfl | rfl | rfl <;> assumption
theorem go7_st (hW : WP L P) {n t : Nat} (hn : n < 2401) (hz : W7 L P n ≠ 0) (ht : t < 4) (hg : go7 L P n t = true) : n + g7 t < 2401 ∧ W7 L P (n + g7 t) ≠ 0 ∧ len4 (d7 (n + g7 t)) = len4 (d7 n) + 1 ∧ eN (n + g7 t) = eN n + g8 t := by
  have hlt := goS_lt hg
  have hL := (hW t ht).1
  exact ⟨(ds7.2.2.2 n t hn ht (by omega)).1, zW_succ ht (g7_pos t).1 hg hz, ds_len ds7 hn ht (by omega), eN_succ hn ht (by omega)⟩
/-- the way, step by step -/
def psN (L : Nat → Nat) (P : Nat → Nat → Nat) : Nat → Nat
  | 0 => 0
  | i + 1 => psN L P i + g7 (ltN L P (psN L P i))
theorem ld_back (hW : WP L P) : ∀ n, n < 2401 → W7 L P n ≠ 0 → ldN L P n = true → ldN L P 0 = true := by
  intro n
  induction n using Nat.strongRecOn with
  | ind n ih =>
    intro hn hz hl
    rcases zW_pred hz with h0 | ⟨t, ht, h1, h2, h3, h4⟩
    · rw [← h0]; exact hl
    · refine ih (n - g7 t) (by omega) (by omega) h4 ?_
      have hlg : lgN L P (n - g7 t) t = true := by
        have h3 : go7 L P (n - g7 t) t = true := h3
        unfold lgN
        rw [h3, show n - g7 t + g7 t = n by omega, hl]
        rfl
      have h4' : W7 L P (n - g7 t) ≠ 0 := h4
      rw [ltN_ld (by omega) h4']
      by_cases h : ltN L P (n - g7 t) < 4
      · simp [h]
      · rw [ltN_no h t ht] at hlg
        cases hlg
theorem sh_0 (hW : WP L P) {m : Nat} (h : shN L P 2401 = some m) : ldN L P 0 = true := by
  obtain ⟨i, hi, hb, hlen⟩ := sh_in 2401 m (Nat.le_refl _) h
  have hz : W7 L P i ≠ 0 := fun hz => by
    unfold dB7 at hb
    rw [hz] at hb
    simp at hb
  refine ld_back hW i hi hz ?_
  rw [ltN_ld hi hz]
  unfold bsN
  rw [hb, h, hlen]
  simp
theorem sh_pos {m : Nat} (hW : WP L P) (h : shN L P 2401 = some m) : 0 < m := by
  obtain ⟨i, hi, hb, hlen⟩ := sh_in 2401 m (Nat.le_refl _) h
  rcases Nat.eq_zero_or_pos m with h0 | h0
  · exfalso
    rw [h0] at hlen
    have hz : ∀ u, u < 4 → d7 i u = 0 := fun u hu => by
      unfold len4 at hlen
      rcases four hu with rfl | rfl | rfl | rfl <;> omega
    unfold dB7 deadS at hb
    rw [Bool.and_eq_true, Bool.and_eq_true] at hb
    have hend := hb.2.1
    have hnx := hb.2.2
    have hgo : ∀ t, t < 4 → decide (d7 i t < L t) = true → goS L P (d7 i) t = true := fun t ht hd => by
      unfold goS
      rw [hd]
      have e : (or4 fun u => if u = t then 0 else hx P u (d7 i u)) = 0 := by
        unfold or4
        dsimp only
        rw [hz 0 (by decide), hz 1 (by decide), hz 2 (by decide), hz 3 (by decide)]
        simp [hx]
      rw [e, Nat.zero_testBit]
      simp
    unfold endS at hend
    unfold nxS at hnx
    simp only [Bool.and_eq_true, Bool.not_eq_true'] at hend
    simp only [Bool.or_eq_true] at hnx
    rcases hnx with ((h | h) | h) | h
    · have := hgo 0 (by decide) h; rw [hend.1.1.1] at this; cases this
    · have := hgo 1 (by decide) h; rw [hend.1.1.2] at this; cases this
    · have := hgo 2 (by decide) h; rw [hend.1.2] at this; cases this
    · have := hgo 3 (by decide) h; rw [hend.2] at this; cases this
  · exact h0
theorem ps_all (hW : WP L P) {m : Nat} (h : shN L P 2401 = some m) : ∀ i, i ≤ m → psN L P i < 2401 ∧ W7 L P (psN L P i) ≠ 0 ∧ len4 (d7 (psN L P i)) = i ∧ ldN L P (psN L P i) = true ∧ (i < m → ltN L P (psN L P i) < 4)
  | 0, _ => by
    have h0 := sh_0 hW h
    have hp := sh_pos hW h
    have hz : W7 L P 0 ≠ 0 := by unfold W7; rw [zW_0]; decide
    refine ⟨(by decide : 0 < 2401), hz, (by decide : len4 (d7 0) = 0), h0, fun hi => ?_⟩
    show ltN L P 0 < 4
    rw [ltN_ld (by decide) hz, Bool.or_eq_true] at h0
    rcases h0 with h0 | h0
    · unfold bsN at h0
      rw [h, Bool.and_eq_true] at h0
      have := of_decide_eq_true h0.2
      have e : m = 0 := Option.some.inj (this.trans (by rfl))
      omega
    · exact of_decide_eq_true h0
  | i + 1, hi => by
    obtain ⟨h1, h2, h3, h4, h5⟩ := ps_all hW h i (by omega)
    have hlt := h5 (by omega)
    obtain ⟨g1, -⟩ := ltN_go hlt
    unfold lgN at g1
    rw [Bool.and_eq_true] at g1
    obtain ⟨n1, n2, n3, -⟩ := go7_st hW h1 h2 hlt g1.1
    refine ⟨n1, n2, by rw [psN, n3, h3], g1.2, fun hi2 => ?_⟩
    have h0 := g1.2
    rw [ltN_ld n1 n2, Bool.or_eq_true] at h0
    rcases h0 with h0 | h0
    · unfold bsN at h0
      rw [h, Bool.and_eq_true, n3, h3] at h0
      have := of_decide_eq_true h0.2
      have e : m = i + 1 := Option.some.inj this
      omega
    · exact of_decide_eq_true h0
end WY
