/-! THE TWO NUMBERINGS: four figures of seven, four figures of eight. -/
def g8 (t : Nat) : Nat := 2 ^ (9 - 3 * t)
def eN (n : Nat) : Nat := n + n / 7 + 8 * (n / 49) + 64 * (n / 343)
theorem four {t : Nat} (h : t < 4) : t = 0 ∨ t = 1 ∨ t = 2 ∨ t = 3 := by omega
theorem d8_0 (c : Nat) : d8 c 0 = c / 512 % 8 := rfl
theorem d8_1 (c : Nat) : d8 c 1 = c / 64 % 8 := rfl
theorem d8_2 (c : Nat) : d8 c 2 = c / 8 % 8 := rfl
theorem d8_3 (c : Nat) : d8 c 3 = c / 1 % 8 := rfl
theorem d7_0 (c : Nat) : d7 c 0 = c / 343 % 7 := rfl
theorem d7_1 (c : Nat) : d7 c 1 = c / 49 % 7 := rfl
theorem d7_2 (c : Nat) : d7 c 2 = c / 7 % 7 := rfl
theorem d7_3 (c : Nat) : d7 c 3 = c / 1 % 7 := rfl
theorem g8_0 : g8 0 = 512 := rfl
theorem g8_1 : g8 1 = 64 := rfl
theorem g8_2 : g8 2 = 8 := rfl
theorem g8_3 : g8 3 = 1 := rfl
theorem g7_0 : g7 0 = 343 := rfl
theorem g7_1 : g7 1 = 49 := rfl
theorem g7_2 : g7 2 = 7 := rfl
theorem g7_3 : g7 3 = 1 := rfl
theorem ds8 : DS 4096 g8 d8 := by
  refine ⟨by decide, ?_, ?_, ?_⟩
  · intro u hu
    rcases four hu with rfl | rfl | rfl | rfl <;> rfl
  · intro t ht
    exact Nat.pow_pos (by decide)
  · intro i t hi ht h6
    rcases four ht with rfl | rfl | rfl | rfl <;> simp only [d8_0, d8_1, d8_2, d8_3, g8_0, g8_1, g8_2, g8_3] at h6 ⊢ <;>
      (refine ⟨by omega, fun u hu => ?_⟩
       rcases four hu with rfl | rfl | rfl | rfl <;> simp only [d8_0, d8_1, d8_2, d8_3] <;> simp <;> omega)
theorem ds7 : DS 2401 g7 d7 := by
  refine ⟨by decide, ?_, ?_, ?_⟩
  · intro u hu
    rcases four hu with rfl | rfl | rfl | rfl <;> rfl
  · intro t ht
    exact (g7_pos t).1
  · intro i t hi ht h6
    rcases four ht with rfl | rfl | rfl | rfl <;> simp only [d7_0, d7_1, d7_2, d7_3, g7_0, g7_1, g7_2, g7_3] at h6 ⊢ <;>
      (refine ⟨by omega, fun u hu => ?_⟩
       rcases four hu with rfl | rfl | rfl | rfl <;> simp only [d7_0, d7_1, d7_2, d7_3] <;> simp <;> omega)
theorem eN_lt {n : Nat} (h : n < 2401) : eN n < 3584 := by unfold eN; omega
theorem eN_mono {n m : Nat} (h : n < m) : eN n < eN m := by unfold eN; omega
theorem eN_inj {n m : Nat} (h : eN n = eN m) : n = m := by
  rcases Nat.lt_trichotomy n m with q | q | q
  · have := eN_mono q; omega
  · exact q
  · have := eN_mono q; omega
theorem eN_dig {n : Nat} (h : n < 2401) : d8 (eN n) = d7 n := by
  funext u
  by_cases hu : u < 4
  · have e1 : n / 49 / 7 = n / 343 := Nat.div_div_eq_div_mul n 49 7
    have e2 : n / 7 / 7 = n / 49 := Nat.div_div_eq_div_mul n 7 7
    have hE : eN n = n / 343 * 512 + n / 49 % 7 * 64 + n / 7 % 7 * 8 + n % 7 := by unfold eN; omega
    have ha : n / 343 < 7 := by omega
    have hb : n / 49 % 7 < 7 := Nat.mod_lt _ (by decide)
    have hc : n / 7 % 7 < 7 := Nat.mod_lt _ (by decide)
    have hd : n % 7 < 7 := Nat.mod_lt _ (by decide)
    have hda : n / 343 % 7 = n / 343 := by omega
    rcases four hu with rfl | rfl | rfl | rfl <;> simp only [d8_0, d8_1, d8_2, d8_3, d7_0, d7_1, d7_2, d7_3] <;> rw [hE] <;> (try rw [hda]) <;> (try rw [Nat.div_one, Nat.div_one]) <;> (generalize n / 343 = a at *; generalize n / 49 % 7 = b at *; generalize n / 7 % 7 = c at *; generalize n % 7 = d at *; omega)
  · unfold d8 d7
    rw [if_neg hu, if_neg hu]
theorem eN_img {c : Nat} (h : c < 4096) (h6 : ∀ u, u < 4 → d8 c u ≤ 6) : ∃ n, n < 2401 ∧ eN n = c := by
  have h0 := h6 0 (by decide)
  have h1 := h6 1 (by decide)
  have h2 := h6 2 (by decide)
  have h3 := h6 3 (by decide)
  simp only [d8_0, d8_1, d8_2, d8_3] at h0 h1 h2 h3
  refine ⟨c / 512 % 8 * 343 + c / 64 % 8 * 49 + c / 8 % 8 * 7 + c % 8, by omega, ?_⟩
  generalize ha : c / 512 % 8 = a at *
  generalize hb : c / 64 % 8 = b at *
  generalize hc : c / 8 % 8 = d at *
  have hd : c / 1 % 8 = c % 8 := by rw [Nat.div_one]
  rw [hd] at h3
  generalize he : c % 8 = f at *
  have hcc : c = a * 512 + b * 64 + d * 8 + f := by omega
  unfold eN
  have q1 : (a * 343 + b * 49 + d * 7 + f) / 7 = a * 49 + b * 7 + d := by omega
  have q2 : (a * 343 + b * 49 + d * 7 + f) / 49 = a * 7 + b := by omega
  have q3 : (a * 343 + b * 49 + d * 7 + f) / 343 = a := by omega
  rw [q1, q2, q3]
  omega
theorem eN_pred {n t : Nat} (hn : n < 2401) (ht : t < 4) (hd : 0 < d7 n t) : g7 t ≤ n ∧ eN (n - g7 t) + g8 t = eN n := by
  rcases four ht with rfl | rfl | rfl | rfl <;> simp only [d7_0, d7_1, d7_2, d7_3, g7_0, g7_1, g7_2, g7_3, g8_0, g8_1, g8_2, g8_3] at hd ⊢ <;> unfold eN <;> omega
theorem eN_succ {n t : Nat} (hn : n < 2401) (ht : t < 4) (hd : d7 n t < 6) : eN (n + g7 t) = eN n + g8 t := by
  rcases four ht with rfl | rfl | rfl | rfl <;> simp only [d7_0, d7_1, d7_2, d7_3, g7_0, g7_1, g7_2, g7_3, g8_0, g8_1, g8_2, g8_3] at hd ⊢ <;> unfold eN <;> omega
def W7 (L : Nat → Nat) (P : Nat → Nat → Nat) : Nat → Nat := zW g7 (fun i t => goS L P (d7 i) t)
def W8 (L : Nat → Nat) (P : Nat → Nat → Nat) : Nat → Nat := zW g8 (fun i t => goS L P (d8 i) t)
section EW
variable {L : Nat → Nat} {P : Nat → Nat → Nat}
/-- one step back, in both numberings -/
theorem back7 (hW : WP L P) {n t : Nat} (hn : n < 2401) (ht : t < 4) (h : 0 < g7 t ∧ g7 t ≤ n ∧ goS L P (d7 (n - g7 t)) t = true) : 0 < d7 n t := by
  have hlt := goS_lt h.2.2
  have hL := (hW t ht).1
  have h2 := (ds7.2.2.2 (n - g7 t) t (by omega) ht (by omega)).2 t ht
  rw [show n - g7 t + g7 t = n by omega, if_pos rfl] at h2
  omega
theorem back8 (hW : WP L P) {c t : Nat} (hc : c < 4096) (ht : t < 4) (h : 0 < g8 t ∧ g8 t ≤ c ∧ goS L P (d8 (c - g8 t)) t = true) : 0 < d8 c t := by
  have hlt := goS_lt h.2.2
  have hL := (hW t ht).1
  have h2 := (ds8.2.2.2 (c - g8 t) t (by omega) ht (by omega)).2 t ht
  rw [show c - g8 t + g8 t = c by omega, if_pos rfl] at h2
  omega
theorem back_iff (hW : WP L P) {n t : Nat} (hn : n < 2401) (ht : t < 4) :
    (0 < g8 t ∧ g8 t ≤ eN n ∧ goS L P (d8 (eN n - g8 t)) t = true) ↔ (0 < g7 t ∧ g7 t ≤ n ∧ goS L P (d7 (n - g7 t)) t = true) := by
  have hlt := eN_lt hn
  constructor
  · intro h
    have hd := back8 hW (by omega) ht h
    rw [eN_dig hn] at hd
    obtain ⟨h1, h2⟩ := eN_pred hn ht hd
    refine ⟨(g7_pos t).1, h1, ?_⟩
    have h3 := h.2.2
    rw [show eN n - g8 t = eN (n - g7 t) by omega, eN_dig (by omega)] at h3
    exact h3
  · intro h
    have hd := back7 hW hn ht h
    obtain ⟨h1, h2⟩ := eN_pred hn ht hd
    refine ⟨Nat.pow_pos (by decide), by omega, ?_⟩
    rw [show eN n - g8 t = eN (n - g7 t) by omega, eN_dig (by omega)]
    exact h.2.2
theorem W_eN (hW : WP L P) : ∀ n, n < 2401 → W8 L P (eN n) = W7 L P n := by
  intro n
  induction n using Nat.strongRecOn with
  | ind n ih =>
    intro hn
    unfold W8 W7
    rw [zW_eq, zW_eq]
    congr 1
    · by_cases h0 : n = 0
      · subst h0; rfl
      · have := eN_mono (show 0 < n by omega)
        rw [if_neg h0, if_neg (by omega)]
    · refine q4_congr fun t ht => ?_
      by_cases h : 0 < g7 t ∧ g7 t ≤ n ∧ goS L P (d7 (n - g7 t)) t = true
      · rw [if_pos h, if_pos ((back_iff hW hn ht).mpr h)]
        obtain ⟨h1, h2⟩ := eN_pred hn ht (back7 hW hn ht h)
        rw [show eN n - g8 t = eN (n - g7 t) by omega]
        exact ih (n - g7 t) (by omega) (by omega)
      · rw [if_neg h, if_neg (fun z => h ((back_iff hW hn ht).mp z))]
theorem W8_img (hW : WP L P) {c : Nat} (hc : c < 4096) (h : W8 L P c ≠ 0) : ∃ n, n < 2401 ∧ eN n = c :=
  eN_img hc fun u hu => Nat.le_trans (ds_reach ds8 hW c hc h u hu) (hW u hu).1
end EW
/-! sums over stands -/
def zsm (f : Nat → Nat) : Nat → Nat
  | 0 => 0
  | n + 1 => zsm f n + f n
theorem zsm_congr {f g : Nat → Nat} : ∀ {n : Nat}, (∀ i, i < n → f i = g i) → zsm f n = zsm g n
  | 0, _ => rfl
  | n + 1, h => by rw [zsm, zsm, zsm_congr (fun i hi => h i (by omega)), h n (by omega)]
theorem zsm_gap {f : Nat → Nat} {a : Nat} : ∀ {b : Nat}, a ≤ b → (∀ c, a ≤ c → c < b → f c = 0) → zsm f b = zsm f a
  | 0, h, _ => by rw [show a = 0 by omega]
  | b + 1, h, h0 => by
    by_cases e : a = b + 1
    · rw [e]
    · rw [zsm, zsm_gap (by omega) (fun c h1 h2 => h0 c h1 (by omega)), h0 b (by omega) (by omega), Nat.add_zero]
theorem zsm_le {f : Nat → Nat} {b : Nat} : ∀ {n : Nat}, (∀ i, i < n → f i ≤ b) → zsm f n ≤ n * b
  | 0, _ => Nat.zero_le _
  | n + 1, h => by
    have h1 := zsm_le (n := n) fun i hi => h i (by omega)
    have h2 := h n (by omega)
    rw [zsm, Nat.succ_mul]
    omega
theorem zsm_eN {f : Nat → Nat} (h : ∀ c, c < 4096 → f c ≠ 0 → ∃ n, n < 2401 ∧ eN n = c) : ∀ m, m ≤ 2401 → zsm f (eN m) = zsm (fun n => f (eN n)) m
  | 0, _ => rfl
  | m + 1, hm => by
    have hmono := eN_mono (show m < m + 1 by omega)
    have h35 : eN (m + 1) ≤ 3584 := by
      by_cases e : m + 1 = 2401
      · rw [e]; decide
      · exact Nat.le_of_lt (eN_lt (by omega))
    rw [zsm_gap (a := eN m + 1) (b := eN (m + 1)) (by omega) (fun c h1 h2 => by
      by_cases h0 : f c = 0
      · exact h0
      · obtain ⟨n, hn, rfl⟩ := h c (by omega) h0
        exfalso
        rcases Nat.lt_or_ge n (m + 1) with q | q
        · rcases Nat.lt_or_ge n m with q2 | q2
          · have := eN_mono q2; omega
          · have : n = m := by omega
            subst this; omega
        · rcases Nat.lt_or_ge (m + 1) n with q2 | q2
          · have := eN_mono q2; omega
          · have : n = m + 1 := by omega
            subst this; omega), zsm, zsm, zsm_eN h m (by omega)]
theorem zsm_all {f : Nat → Nat} (h : ∀ c, c < 4096 → f c ≠ 0 → ∃ n, n < 2401 ∧ eN n = c) : zsm f 4096 = zsm (fun n => f (eN n)) 2401 := by
  rw [zsm_gap (a := eN 2401) (by decide) (fun c h1 h2 => by
    by_cases h0 : f c = 0
    · exact h0
    · obtain ⟨n, hn, rfl⟩ := h c h2 h0
      have := eN_lt hn
      have e : eN 2401 = 3584 := by decide
      omega), zsm_eN h 2401 (Nat.le_refl _)]
