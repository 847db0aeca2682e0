/-! THE WAY leads to a deadlock; a lock that no program locks; the order of deadlocks. -/
section WC
variable {L : Nat → Nat} {P : Nat → Nat → Nat}
def code7 (c : Nat) : Nat := d8 c 0 * 343 + d8 c 1 * 49 + d8 c 2 * 7 + d8 c 3
theorem code7_lt {c c' : Nat} (hc : c < 4096) (hc' : c' < 4096) (h6 : ∀ u, u < 4 → d8 c u ≤ 6) (h6' : ∀ u, u < 4 → d8 c' u ≤ 6) (h : c < c') : code7 c < code7 c' := by
  have e := d8_num hc
  have e' := d8_num hc'
  have a0 := h6 0 (by decide)
  have a1 := h6 1 (by decide)
  have a2 := h6 2 (by decide)
  have a3 := h6 3 (by decide)
  have b0 := h6' 0 (by decide)
  have b1 := h6' 1 (by decide)
  have b2 := h6' 2 (by decide)
  have b3 := h6' 3 (by decide)
  unfold code7
  generalize d8 c 0 = x0 at *
  generalize d8 c 1 = x1 at *
  generalize d8 c 2 = x2 at *
  generalize d8 c 3 = x3 at *
  generalize d8 c' 0 = y0 at *
  generalize d8 c' 1 = y1 at *
  generalize d8 c' 2 = y2 at *
  generalize d8 c' 3 = y3 at *
  rcases Nat.lt_trichotomy x0 y0 with q | q | q
  · omega
  · rcases Nat.lt_trichotomy x1 y1 with q1 | q1 | q1
    · omega
    · rcases Nat.lt_trichotomy x2 y2 with q2 | q2 | q2
      · omega
      · omega
      · omega
    · omega
  · omega
theorem code7_eN {n : Nat} (hn : n < 2401) : code7 (eN n) = n := by
  unfold code7
  rw [eN_dig hn]
  simp only [d7_0, d7_1, d7_2, d7_3]
  have e1 : n / 49 / 7 = n / 343 := Nat.div_div_eq_div_mul n 49 7
  have e2 : n / 7 / 7 = n / 49 := Nat.div_div_eq_div_mul n 7 7
  omega
theorem sh_min : ∀ N n, n < N → dB7 L P n = true → ∃ m, shN L P N = some m ∧ m ≤ len4 (d7 n)
  | 0, n, hn, _ => absurd hn (Nat.not_lt_zero _)
  | N + 1, n, hn, hb => by
    rw [shN]
    by_cases e : n = N
    · subst e
      cases hs : shN L P n with
      | none => exact ⟨_, if_pos hb, Nat.le_refl _⟩
      | some m =>
        dsimp only
        rw [if_pos hb]
        by_cases hl : len4 (d7 n) < m
        · exact ⟨_, if_pos hl, Nat.le_refl _⟩
        · exact ⟨m, if_neg hl, by omega⟩
    · obtain ⟨m, h1, h2⟩ := sh_min N n (by omega) hb
      rw [h1]
      dsimp only
      by_cases hN : dB7 L P N = true
      · rw [if_pos hN]
        by_cases hl : len4 (d7 N) < m
        · exact ⟨_, if_pos hl, by omega⟩
        · exact ⟨m, if_neg hl, h2⟩
      · exact ⟨m, if_neg hN, h2⟩
theorem ld_len (hW : WP L P) {m : Nat} (h : shN L P 2401 = some m) : ∀ (k n : Nat), n < 2401 → 2401 - n ≤ k → ldN L P n = true → len4 (d7 n) ≤ m := by
  intro k
  induction k with
  | zero => intro n hn hk; omega
  | succ k ih =>
    intro n hn hk hl
    have hz : W7 L P n ≠ 0 := fun hz => by
      rw [ldN_eq hn, hz] at hl
      simp at hl
    have h1 := ltN_ld (L := L) (P := P) hn hz
    rw [h1, Bool.or_eq_true] at hl
    rcases hl with hl | hl
    · unfold bsN at hl
      rw [h, Bool.and_eq_true] at hl
      have e : m = len4 (d7 n) := Option.some.inj (of_decide_eq_true hl.2)
      omega
    · have hlt := of_decide_eq_true hl
      obtain ⟨g1, -⟩ := ltN_go hlt
      unfold lgN at g1
      rw [Bool.and_eq_true] at g1
      obtain ⟨s1, s2, s3, -⟩ := go7_st hW hn hz hlt g1.1
      have hgp := (g7_pos (ltN L P n)).1
      have := ih _ s1 (by omega) g1.2
      omega
theorem way_dead (hW : WP L P) {m : Nat} (h : shN L P 2401 = some m) : dB7 L P (psN L P m) = true := by
  obtain ⟨p1, p2, p3, p4, -⟩ := ps_all hW h m (Nat.le_refl _)
  have h1 := ltN_ld (L := L) (P := P) p1 p2
  have p4' := p4
  rw [h1, Bool.or_eq_true] at p4'
  rcases p4' with hb | hb
  · unfold bsN at hb
    rw [Bool.and_eq_true] at hb
    exact hb.1
  · exfalso
    have hlt := of_decide_eq_true hb
    obtain ⟨g1, -⟩ := ltN_go hlt
    unfold lgN at g1
    rw [Bool.and_eq_true] at g1
    obtain ⟨s1, s2, s3, -⟩ := go7_st hW p1 p2 hlt g1.1
    have := ld_len hW h 2401 _ s1 (by omega) g1.2
    omega
def wR (L : Nat → Nat) (P : Nat → Nat → Nat) (i : Nat) : Nat := ltN L P (psN L P i)
theorem way_vb (hW : WP L P) {m : Nat} (h : shN L P 2401 = some m) : ∀ i, i ≤ m → vb L P (wR L P) i = true ∧ sd (wR L P) i = d7 (psN L P i)
  | 0, _ => by
    refine ⟨rfl, ?_⟩
    show _ = d7 0
    rw [d7_zero]
    rfl
  | i + 1, hi => by
    obtain ⟨h1, h2⟩ := way_vb hW h i (by omega)
    obtain ⟨p1, p2, p3, p4, p5⟩ := ps_all hW h i (by omega)
    have hlt := p5 (by omega)
    obtain ⟨g1, -⟩ := ltN_go hlt
    unfold lgN at g1
    rw [Bool.and_eq_true] at g1
    have hg : goS L P (d7 (psN L P i)) (wR L P i) = true := g1.1
    have hl := goS_lt hg
    have hL := (hW (wR L P i) hlt).1
    refine ⟨?_, ?_⟩
    · rw [vb, h1, h2, hg]
      rfl
    · have e : d7 (psN L P i + g7 (wR L P i)) = mv (d7 (psN L P i)) (wR L P i) := d7_mv p1 hlt (show d7 (psN L P i) (wR L P i) < 6 by omega)
      show _ = d7 (psN L P i + g7 (wR L P i))
      rw [e, ← h2]
      funext u
      show dn (wR L P) u (i + 1) = mv (fun u => dn (wR L P) u i) (wR L P i) u
      unfold mv
      rw [dn]
      by_cases e : wR L P i = u
      · rw [if_pos e, if_pos e.symm]
      · rw [if_neg e, if_neg (fun z => e z.symm)]
        rfl
theorem way_VR (hW : WP L P) {m : Nat} (h : shN L P 2401 = some m) : VR L P m (wR L P) :=
  ⟨sh_lt 2401 m h, fun i hi => (ps_all hW h i (by omega)).2.2.2.2 hi, (way_vb hW h m (Nat.le_refl _)).1⟩
/-! a lock that no program locks -/
theorem wo_bit (hW : WP L P) (hE : WE L P) {l : Nat} {t : Nat} (ht : t < 4) (hno : ∀ k, k < L t → P t k ≠ 8 + l) : ∀ k, k ≤ L t → (hx P t k).testBit l = false ∧ ∀ j, j < k → kp l (P t j) = true
  | 0, _ => ⟨by show (0 : Nat).testBit l = false; rw [Nat.zero_testBit], fun j hj => absurd hj (Nat.not_lt_zero _)⟩
  | k + 1, hk => by
    obtain ⟨h1, h2⟩ := wo_bit hW hE ht hno k (by omega)
    have hp := P_lt hW ht (show k < L t by omega)
    have hwk := wl_wk (hE t ht) (show k < L t by omega)
    have hne := hno k (by omega)
    have hkp : kp l (P t k) = true := by
      unfold kp
      by_cases c1 : P t k / 4 < 2
      · simp [c1]
      · by_cases c2 : P t k % 4 = l
        · exfalso
          unfold wk at hwk
          by_cases c3 : P t k / 4 = 2
          · omega
          · rw [if_neg c3, if_pos (by omega), c2, h1] at hwk
            cases hwk
        · simp [c2]
    refine ⟨?_, fun j hj => ?_⟩
    · rw [hx_step, h1, hbit_bit]
      unfold kp at hkp
      rw [Bool.or_eq_true] at hkp
      rcases hkp with hkp | hkp
      · have := of_decide_eq_true hkp
        simp [show ¬ 2 ≤ P t k / 4 by omega]
      · simp only [Bool.not_eq_true', decide_eq_false_iff_not] at hkp
        simp [hkp]
    · by_cases e : j = k
      · rw [e]; exact hkp
      · exact h2 j (by omega)
theorem wo_fl {l t n : Nat} (h : ∀ j, j < n → kp l (P t j) = true) : ∀ j, j ≤ n → fl l P t j = j
  | 0, _ => rfl
  | j + 1, hj => by
    rw [fl, wo_fl h j (by omega), if_pos (h j (by omega))]
theorem wo_fp {l t n : Nat} (h : ∀ j, j < n → kp l (P t j) = true) : ∀ j, j ≤ n → ∀ s, s < j → fp l P t j s = P t s
  | 0, _, s, hs => absurd hs (Nat.not_lt_zero _)
  | j + 1, hj, s, hs => by
    rw [fp, wo_fl h j (by omega)]
    by_cases e : s = j
    · rw [if_pos ⟨e, h j (by omega)⟩, e]
    · rw [if_neg (fun z => e z.1)]
      exact wo_fp h j (by omega) s (by omega)
theorem wo_same (hW : WP L P) (hE : WE L P) (hN : CN L P) {l : Nat} (hno : ∀ t, t < 4 → ∀ k, k < L t → P t k ≠ 8 + l) : oL l L P = L ∧ oP l L P = P := by
  have hk : ∀ t, t < 4 → ∀ j, j < L t → kp l (P t j) = true := fun t ht => (wo_bit hW hE ht (hno t ht) (L t) (Nat.le_refl _)).2
  have e1 : ∀ t, t < 4 → fl l P t (L t) = L t := fun t ht => wo_fl (hk t ht) _ (Nat.le_refl _)
  constructor
  · funext t
    unfold oL
    by_cases ht : t < 4
    · rw [if_pos ht, e1 t ht]
    · rw [if_neg ht, hN.1 t (by omega)]
  · funext t s
    unfold oP
    by_cases ht : t < 4
    · rw [if_pos ht]
      by_cases hs : s < L t
      · exact wo_fp (hk t ht) _ (Nat.le_refl _) s hs
      · rw [fp_0 t (L t) s (by rw [e1 t ht]; omega), hN.2 t s (Or.inr (by omega))]
    · rw [if_neg ht, hN.2 t s (Or.inl (by omega))]
end WC
