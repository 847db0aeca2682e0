/-! COUNTS of stands, ends, deadlocks, and of the runs to them. -/
section CT
variable {L : Nat → Nat} {P : Nat → Nat → Nat}
theorem zsm_add (f g : Nat → Nat) : ∀ n, zsm (fun i => f i + g i) n = zsm f n + zsm g n
  | 0 => rfl
  | n + 1 => by
    rw [zsm, zsm, zsm, zsm_add f g n]
    omega
theorem zsm_mono {f g : Nat → Nat} : ∀ {n : Nat}, (∀ i, i < n → f i ≤ g i) → zsm f n ≤ zsm g n
  | 0, _ => Nat.le_refl _
  | n + 1, h => by
    have h1 := zsm_mono (f := f) (g := g) (n := n) fun i hi => h i (by omega)
    have h2 := h n (by omega)
    rw [zsm, zsm]
    omega
theorem zsm_zero {f : Nat → Nat} : ∀ {n : Nat}, (∀ i, i < n → f i = 0) → zsm f n = 0
  | 0, _ => rfl
  | n + 1, h => by
    rw [zsm, zsm_zero (n := n) fun i hi => h i (by omega), h n (by omega)]
theorem zsm_nz {f : Nat → Nat} : ∀ {n : Nat}, zsm f n ≠ 0 → ∃ i, i < n ∧ f i ≠ 0
  | 0, h => absurd rfl h
  | n + 1, h => by
    by_cases h0 : f n = 0
    · rw [zsm, h0, Nat.add_zero] at h
      obtain ⟨i, h1, h2⟩ := zsm_nz h
      exact ⟨i, by omega, h2⟩
    · exact ⟨n, by omega, h0⟩
theorem zsm_pre {f : Nat → Nat} {a b : Nat} (h : a ≤ b) : zsm f a ≤ zsm f b := by
  induction h with
  | refl => exact Nat.le_refl _
  | step _ ih => exact Nat.le_trans ih (Nat.le_add_right _ _)
/-- at most one place -/
theorem zsm_uni {f : Nat → Nat} (h1 : ∀ i, f i ≤ 1) : ∀ {n : Nat}, (∀ i j, i < n → j < n → f i ≠ 0 → f j ≠ 0 → i = j) → zsm f n ≤ 1
  | 0, _ => Nat.zero_le _
  | n + 1, h => by
    rw [zsm]
    by_cases h0 : f n = 0
    · have := zsm_uni h1 (n := n) fun i j hi hj => h i j (by omega) (by omega)
      omega
    · rw [zsm_zero (n := n) fun i hi => ?_]
      · have := h1 n
        omega
      · by_cases hi0 : f i = 0
        · exact hi0
        · have := h i n (by omega) (by omega) hi0 h0
          omega
/-- reachable; ends; ends where all are through -/
def rB8 (L : Nat → Nat) (P : Nat → Nat → Nat) (c : Nat) : Bool := !decide (W8 L P c = 0)
def eB8 (L : Nat → Nat) (P : Nat → Nat → Nat) (c : Nat) : Bool := !decide (W8 L P c = 0) && endS L P (d8 c)
def nr8 (L : Nat → Nat) (P : Nat → Nat → Nat) : Nat := zsm (fun c => if rB8 L P c = true then 1 else 0) 4096
def ne8 (L : Nat → Nat) (P : Nat → Nat → Nat) : Nat := zsm (fun c => if eB8 L P c = true then 1 else 0) 4096
def ndl (L : Nat → Nat) (P : Nat → Nat → Nat) : Nat := zsm (nd8 L P) 4096
def wh8 (L : Nat → Nat) (P : Nat → Nat → Nat) : Nat := zsm (fun c => if eB8 L P c = true then W8 L P c else 0) 4096
def wd8 (L : Nat → Nat) (P : Nat → Nat → Nat) : Nat := zsm (fun c => if dB8 L P c = true then W8 L P c else 0) 4096
def fB8 (L : Nat → Nat) (P : Nat → Nat → Nat) (c : Nat) : Bool := !decide (W8 L P c = 0) && (endS L P (d8 c) && !nxS L (d8 c))
def nf8 (L : Nat → Nat) (P : Nat → Nat → Nat) : Nat := zsm (fun c => if fB8 L P c = true then 1 else 0) 4096
def wf8 (L : Nat → Nat) (P : Nat → Nat → Nat) : Nat := zsm (fun c => if fB8 L P c = true then W8 L P c else 0) 4096
theorem ne8_split : ne8 L P = ndl L P + nf8 L P := by
  unfold ne8 ndl nf8
  rw [← zsm_add]
  refine zsm_congr fun c _ => ?_
  unfold nd8 eB8 dB8 fB8 deadS
  cases decide (W8 L P c = 0) <;> cases endS L P (d8 c) <;> cases nxS L (d8 c) <;> rfl
theorem wh8_split : wh8 L P = wd8 L P + wf8 L P := by
  unfold wh8 wd8 wf8
  rw [← zsm_add]
  refine zsm_congr fun c _ => ?_
  unfold eB8 dB8 fB8 deadS
  cases decide (W8 L P c = 0) <;> cases endS L P (d8 c) <;> cases nxS L (d8 c) <;> simp
theorem fB8_at (hW : WP L P) {c : Nat} (hc : c < 4096) (h : fB8 L P c = true) : ∀ u, u < 4 → d8 c u = L u := by
  unfold fB8 nxS at h
  simp only [Bool.and_eq_true, Bool.not_eq_true', decide_eq_false_iff_not, Bool.or_eq_false_iff] at h
  obtain ⟨h1, -, ⟨⟨h2, h3⟩, h4⟩, h5⟩ := h
  have hr := ds_reach ds8 hW c hc h1
  intro u hu
  have := hr u hu
  rcases four hu with rfl | rfl | rfl | rfl <;> omega
theorem nf8_le (hW : WP L P) : nf8 L P ≤ 1 := by
  refine zsm_uni (fun i => by split <;> omega) fun i j hi hj h1 h2 => ?_
  have e1 : fB8 L P i = true := by
    by_cases h : fB8 L P i = true
    · exact h
    · rw [if_neg h] at h1; exact absurd rfl h1
  have e2 : fB8 L P j = true := by
    by_cases h : fB8 L P j = true
    · exact h
    · rw [if_neg h] at h2; exact absurd rfl h2
  have a1 := fB8_at hW hi e1
  have a2 := fB8_at hW hj e2
  rw [d8_num hi, d8_num hj, a1 0 (by decide), a1 1 (by decide), a1 2 (by decide), a1 3 (by decide), a2 0 (by decide), a2 1 (by decide), a2 2 (by decide), a2 3 (by decide)]
theorem wf8_ge : nf8 L P ≤ wf8 L P := by
  refine zsm_mono fun c _ => ?_
  by_cases h : fB8 L P c = true
  · rw [if_pos h, if_pos h]
    unfold fB8 at h
    simp only [Bool.and_eq_true, Bool.not_eq_true', decide_eq_false_iff_not] at h
    omega
  · rw [if_neg h, if_neg h]
    exact Nat.le_refl _
theorem wf8_0 (h : nf8 L P = 0) : wf8 L P = 0 := by
  refine zsm_zero fun c hc => ?_
  by_cases hb : fB8 L P c = true
  · exfalso
    have := zsm_one (f := fun c => if fB8 L P c = true then 1 else 0) hc
    rw [if_pos hb] at this
    have h : zsm (fun c => if fB8 L P c = true then 1 else 0) 4096 = 0 := h
    omega
  · rw [if_neg hb]
theorem wd8_ge : ndl L P ≤ wd8 L P := by
  refine zsm_mono fun c _ => ?_
  unfold nd8
  by_cases h : dB8 L P c = true
  · rw [if_pos h, if_pos h]
    have := dB8_W h
    omega
  · rw [if_neg h, if_neg h]
    exact Nat.le_refl _
theorem wd8_0 (h : ndl L P = 0) : wd8 L P = 0 := by
  refine zsm_zero fun c hc => ?_
  by_cases hb : dB8 L P c = true
  · exfalso
    have := zsm_one (f := nd8 L P) hc
    unfold nd8 at this
    rw [if_pos hb] at this
    have h : zsm (nd8 L P) 4096 = 0 := h
    unfold nd8 at h
    omega
  · rw [if_neg hb]
/-- there is an end -/
theorem go8_st (hW : WP L P) {c t : Nat} (hc : c < 4096) (hz : W8 L P c ≠ 0) (ht : t < 4) (hg : goS L P (d8 c) t = true) : c + g8 t < 4096 ∧ W8 L P (c + g8 t) ≠ 0 := by
  have hlt := goS_lt hg
  have hL := (hW t ht).1
  exact ⟨(ds8.2.2.2 c t hc ht (by omega)).1, zW_succ ht (Nat.pow_pos (by decide)) hg hz⟩
theorem endS_no {s : Nat → Nat} (h : ¬ endS L P s = true) : ∃ t, t < 4 ∧ goS L P s t = true := by
  unfold endS at h
  cases h0 : goS L P s 0 with
  | true => exact ⟨0, by decide, h0⟩
  | false =>
    cases h1 : goS L P s 1 with
    | true => exact ⟨1, by decide, h1⟩
    | false =>
      cases h2 : goS L P s 2 with
      | true => exact ⟨2, by decide, h2⟩
      | false =>
        cases h3 : goS L P s 3 with
        | true => exact ⟨3, by decide, h3⟩
        | false =>
          rw [h0, h1, h2, h3] at h
          exact absurd rfl h
theorem end_ex (hW : WP L P) : ∀ (k c : Nat), c < 4096 → 4096 - c ≤ k → W8 L P c ≠ 0 → ∃ e, e < 4096 ∧ eB8 L P e = true := by
  intro k
  induction k with
  | zero => intro c hc hk; omega
  | succ k ih =>
    intro c hc hk hz
    by_cases he : endS L P (d8 c) = true
    · refine ⟨c, hc, ?_⟩
      unfold eB8
      rw [he]
      simp [hz]
    · obtain ⟨t, ht, hg⟩ := endS_no he
      obtain ⟨h1, h2⟩ := go8_st hW hc hz ht hg
      have : 0 < g8 t := Nat.pow_pos (by decide)
      exact ih (c + g8 t) h1 (by omega) h2
theorem ne8_pos (hW : WP L P) : 0 < ne8 L P := by
  obtain ⟨e, he, hb⟩ := end_ex hW 4096 0 (by decide) (Nat.le_refl _) (by unfold W8; rw [zW_0]; decide)
  have := zsm_one (f := fun c => if eB8 L P c = true then 1 else 0) he
  rw [if_pos hb] at this
  exact this
theorem ne8_nr : ne8 L P ≤ nr8 L P := by
  refine zsm_mono fun c _ => ?_
  unfold eB8 rB8
  cases decide (W8 L P c = 0) <;> cases endS L P (d8 c) <;> simp
/-! all stands -/
theorem zsm_prod (F G : Nat → Nat) : ∀ m, zsm (fun c => F (c / 8) * G (c % 8)) (8 * m) = zsm F m * zsm G 8
  | 0 => by
    show 0 = 0 * _
    rw [Nat.zero_mul]
  | m + 1 => by
    have e : 8 * (m + 1) = 8 * m + 1 + 1 + 1 + 1 + 1 + 1 + 1 + 1 := by omega
    rw [e]
    simp only [zsm]
    rw [zsm_prod F G m]
    simp only [zsm]
    have q : ∀ j, j < 8 → (8 * m + j) / 8 = m ∧ (8 * m + j) % 8 = j := fun j hj => ⟨by omega, by omega⟩
    rw [show 8 * m + 1 + 1 = 8 * m + 2 from rfl, show 8 * m + 2 + 1 = 8 * m + 3 from rfl, show 8 * m + 3 + 1 = 8 * m + 4 from rfl, show 8 * m + 4 + 1 = 8 * m + 5 from rfl, show 8 * m + 5 + 1 = 8 * m + 6 from rfl, show 8 * m + 6 + 1 = 8 * m + 7 from rfl]
    rw [(q 1 (by decide)).1, (q 1 (by decide)).2, (q 2 (by decide)).1, (q 2 (by decide)).2, (q 3 (by decide)).1, (q 3 (by decide)).2, (q 4 (by decide)).1, (q 4 (by decide)).2, (q 5 (by decide)).1, (q 5 (by decide)).2, (q 6 (by decide)).1, (q 6 (by decide)).2, (q 7 (by decide)).1, (q 7 (by decide)).2]
    rw [show 8 * m / 8 = m by omega, show 8 * m % 8 = 0 by omega]
    rw [Nat.add_mul]
    simp only [Nat.mul_add, Nat.mul_zero, Nat.zero_add]
    omega
def kU (l x : Nat) : Nat := if x ≤ l then 1 else 0
theorem kU_le (l : Nat) : zsm (kU l) 8 ≤ l + 1 := by
  have h : ∀ m, zsm (kU l) m ≤ l + 1 ∧ (m ≤ l + 1 → zsm (kU l) m ≤ m) := by
    intro m
    induction m with
    | zero => exact ⟨Nat.zero_le _, fun _ => Nat.le_refl _⟩
    | succ m ih =>
      rw [zsm]
      unfold kU
      by_cases hm : m ≤ l
      · rw [if_pos hm]
        have := ih.2 (by omega)
        unfold kU at this
        exact ⟨by omega, fun _ => by omega⟩
      · rw [if_neg hm]
        have := ih.1
        unfold kU at this
        exact ⟨by omega, fun _ => by omega⟩
  exact (h 8).1
theorem nr8_le (hW : WP L P) : nr8 L P ≤ (L 0 + 1) * (L 1 + 1) * (L 2 + 1) * (L 3 + 1) := by
  have h1 : nr8 L P ≤ zsm (fun c => (kU (L 0) (c / 8 / 8 / 8) * kU (L 1) (c / 8 / 8 % 8) * kU (L 2) (c / 8 % 8)) * kU (L 3) (c % 8)) 4096 := by
    refine zsm_mono fun c hc => ?_
    by_cases h : rB8 L P c = true
    · rw [if_pos h]
      unfold rB8 at h
      simp only [Bool.not_eq_true', decide_eq_false_iff_not] at h
      have hr := ds_reach ds8 hW c hc h
      have r0 := hr 0 (by decide)
      have r1 := hr 1 (by decide)
      have r2 := hr 2 (by decide)
      have r3 := hr 3 (by decide)
      simp only [d8_0, d8_1, d8_2, d8_3] at r0 r1 r2 r3
      have a0 : kU (L 0) (c / 8 / 8 / 8) = 1 := if_pos (by omega)
      have a1 : kU (L 1) (c / 8 / 8 % 8) = 1 := if_pos (by omega)
      have a2 : kU (L 2) (c / 8 % 8) = 1 := if_pos (by omega)
      have a3 : kU (L 3) (c % 8) = 1 := if_pos (by omega)
      rw [a0, a1, a2, a3]
      decide
    · rw [if_neg h]
      exact Nat.zero_le _
  have e1 := zsm_prod (fun c => kU (L 0) (c / 8 / 8) * kU (L 1) (c / 8 % 8) * kU (L 2) (c % 8)) (kU (L 3)) 512
  have e2 := zsm_prod (fun c => kU (L 0) (c / 8) * kU (L 1) (c % 8)) (kU (L 2)) 64
  have e3 := zsm_prod (kU (L 0)) (kU (L 1)) 8
  have k0 := kU_le (L 0)
  have k1 := kU_le (L 1)
  have k2 := kU_le (L 2)
  have k3 := kU_le (L 3)
  refine Nat.le_trans h1 ?_
  rw [show (4096 : Nat) = 8 * 512 from rfl, e1, show (512 : Nat) = 8 * 64 from rfl, e2, show (64 : Nat) = 8 * 8 from rfl, e3]
  exact Nat.mul_le_mul (Nat.mul_le_mul (Nat.mul_le_mul k0 k1) k2) k3
/-! the sleep sets' counts -/
theorem anG_end (n : Nat) : (anG L P n 4 = true) = ¬ (endS L P (d7 n) = true) := by
  rw [anG_0, msk_end]
theorem sE_eN (hW : WP L P) {n : Nat} (hn : n < 2401) : sE L P n = if eB8 L P (eN n) = true then zsm (cO L P n) 16 else 0 := by
  unfold sE eB8
  rw [W_eN hW n hn, eN_dig hn]
  by_cases hz : W7 L P n = 0
  · have e : zsm (cO L P n) 16 = 0 := by
      have := cO_le hW n
      omega
    rw [e]
    simp
  · by_cases he : endS L P (d7 n) = true
    · rw [if_neg (by rw [anG_end]; exact fun h => h he), he]
      simp [hz]
    · rw [if_pos (by rw [anG_end]; exact he)]
      simp [he]
theorem ends_ge (hW : WP L P) : ne8 L P ≤ zsm (sE L P) 2401 := by
  have e : ne8 L P = zsm (fun n => if eB8 L P (eN n) = true then 1 else 0) 2401 := zsm_same hW (fun c _ hz => by simp [eB8, hz]) fun n _ => rfl
  rw [e]
  refine zsm_mono fun n hn => ?_
  rw [sE_eN hW hn]
  by_cases hb : eB8 L P (eN n) = true
  · rw [if_pos hb, if_pos hb]
    have hz : W7 L P n ≠ 0 := fun hz => by
      unfold eB8 at hb
      rw [W_eN hW n hn, hz] at hb
      simp at hb
    have := slp_all hW hn hz
    omega
  · rw [if_neg hb]
    exact Nat.zero_le _
theorem ends_le (hW : WP L P) : zsm (sE L P) 2401 ≤ wh8 L P := by
  have e : wh8 L P = zsm (fun n => if eB8 L P (eN n) = true then W7 L P n else 0) 2401 := zsm_same hW (fun c _ hz => by simp [eB8, hz]) fun n hn => by rw [W_eN hW n hn]
  rw [e]
  refine zsm_mono fun n hn => ?_
  rw [sE_eN hW hn]
  by_cases hb : eB8 L P (eN n) = true
  · rw [if_pos hb, if_pos hb]
    exact cO_le hW n
  · rw [if_neg hb, if_neg hb]
    exact Nat.le_refl _
theorem wh8_lt (hW : WP L P) : wh8 L P < 9223372036854775808 := by
  have h : wh8 L P ≤ 4096 * 281474976710657 := zsm_le fun c hc => by
    have h1 : W8 L P c < 281474976710657 := ds_small ds8 (P := P) hW hc
    split <;> omega
  omega
end CT
