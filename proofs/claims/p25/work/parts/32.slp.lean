/-! SLEEP SETS, as both go through them: how often each stand is come to with each set. -/
section SL
variable (L : Nat → Nat) (P : Nat → Nat → Nat)
/-- who rests when it is a thread's turn -/
def sRs (n q : Nat) : Nat → Nat
  | 0 => q
  | t + 1 => if (go7 L P n t && !q.testBit t) = true then sRs n q t ||| 2 ^ t else sRs n q t
def sNx (n q t : Nat) : Nat := msk fun u => (sRs L P n q t).testBit u && cm (P u (d7 n u)) (P t (d7 n t))
def aT (n q t : Nat) (A : Nat → Nat → Nat) : Nat → Nat → Nat := fun x y => if x = n + g7 t ∧ y = sNx L P n q t ∧ (go7 L P n t && !q.testBit t) = true then A x y + A n q else A x y
def aP (n q : Nat) : Nat → (Nat → Nat → Nat) → Nat → Nat → Nat
  | 0, A => A
  | t + 1, A => aT L P n q t (aP n q t A)
def anG (n : Nat) : Nat → Bool
  | 0 => false
  | t + 1 => anG n t || go7 L P n t
def wnG (n q : Nat) : Nat → Bool
  | 0 => false
  | t + 1 => wnG n q t || (go7 L P n t && !q.testBit t)
/-- after some sets of a stand: how often, ends, cuts -/
def aS (n : Nat) : Nat → (Nat → Nat → Nat) × Nat × Nat → (Nat → Nat → Nat) × Nat × Nat
  | 0, S => S
  | q + 1, S => (aP L P n q 4 (aS n q S).1, (aS n q S).2.1 + (if anG L P n 4 = true then 0 else (aS n q S).1 n q), (aS n q S).2.2 + if (anG L P n 4 && !wnG L P n q 4) = true then (aS n q S).1 n q else 0)
/-- after some stands: how often, ends, cuts, and deadlocks -/
def aR : Nat → ((Nat → Nat → Nat) × Nat × Nat) × Nat
  | 0 => ((fun x y => if x = 0 ∧ y = 0 then 1 else 0, 0, 0), 0)
  | n + 1 => (aS L P n 16 (aR n).1, (aR n).2 + if (!decide (zsm ((aR n).1.1 n) 16 = 0) && deadS L P (d7 n)) = true then 1 else 0)
variable {L : Nat → Nat} {P : Nat → Nat → Nat}
theorem aT_n {n q t : Nat} {A : Nat → Nat → Nat} {x : Nat} (hx : x ≤ n) (y : Nat) : aT L P n q t A x y = A x y := by
  unfold aT
  have := (g7_pos t).1
  rw [if_neg (by omega)]
theorem aP_n {n q : Nat} {A : Nat → Nat → Nat} {x : Nat} (hx : x ≤ n) (y : Nat) : ∀ t, aP L P n q t A x y = A x y
  | 0 => rfl
  | t + 1 => by rw [aP, aT_n hx, aP_n hx y t]
theorem aS_n {n : Nat} {S : (Nat → Nat → Nat) × Nat × Nat} {x : Nat} (hx : x ≤ n) (y : Nat) : ∀ q, (aS L P n q S).1 x y = S.1 x y
  | 0 => rfl
  | q + 1 => by
    show aP L P n q 4 (aS L P n q S).1 x y = _
    rw [aP_n hx, aS_n hx y q]
/-- what holds of all that are come to -/
def SI (L : Nat → Nat) (P : Nat → Nat → Nat) (A : Nat → Nat → Nat) : Prop := ∀ x y, A x y ≠ 0 → x < 2401 ∧ y < 16 ∧ W7 L P x ≠ 0 ∧ ∀ u, u < 4 → y.testBit u = true → d7 x u < L u
theorem or_bit {a t : Nat} (ht : t < 4) {u : Nat} (hu : u < 4) : (a ||| 2 ^ t).testBit u = (a.testBit u || decide (u = t)) := by
  rw [Nat.testBit_or, Nat.testBit_two_pow]
  congr 1
  exact decide_eq_decide.mpr ⟨Eq.symm, Eq.symm⟩
theorem sRs_bit {n q : Nat} {u : Nat} (hu : u < 4) : ∀ t, t ≤ 4 → (sRs L P n q t).testBit u = (q.testBit u || (decide (u < t) && go7 L P n u))
  | 0, _ => by simp [sRs]
  | t + 1, ht => by
    unfold sRs
    have ih := sRs_bit (n := n) (q := q) hu t (by omega)
    by_cases hc : (go7 L P n t && !q.testBit t) = true
    · rw [if_pos hc, or_bit (by omega) hu, ih]
      rw [Bool.and_eq_true] at hc
      by_cases e : u = t
      · subst e; simp [hc.1]
      · by_cases h1 : u < t
        · simp [e, h1, show u < t + 1 by omega]
        · simp [e, h1, show ¬ u < t + 1 by omega]
    · rw [if_neg hc, ih]
      by_cases e : u = t
      · subst e
        simp
        cases hq : q.testBit u with
        | true => exact fun _ => rfl
        | false =>
          rw [hq] at hc
          simpa using hc
      · by_cases h1 : u < t
        · simp [h1, show u < t + 1 by omega]
        · simp [h1, show ¬ u < t + 1 by omega]
theorem sRs_lt {n q : Nat} (hq : q < 16) : ∀ t, t ≤ 4 → sRs L P n q t < 16
  | 0, _ => hq
  | t + 1, ht => by
    have ih := sRs_lt (n := n) hq t (by omega)
    have h2 : 2 ^ t < 2 ^ 4 := Nat.pow_lt_pow_right (by decide) (by omega)
    unfold sRs
    split
    · exact Nat.or_lt_two_pow (n := 4) ih h2
    · exact ih
/-- those that rest have a next step -/
theorem sRs_nx {n q : Nat} (hs : ∀ u, u < 4 → q.testBit u = true → d7 n u < L u) {t : Nat} (ht : t ≤ 4) {u : Nat} (hu : u < 4) (h : (sRs L P n q t).testBit u = true) : d7 n u < L u := by
  rw [sRs_bit hu t ht, Bool.or_eq_true] at h
  rcases h with h | h
  · exact hs u hu h
  · rw [Bool.and_eq_true] at h
    exact goS_lt h.2
theorem sRs_self {n q t : Nat} (ht : t < 4) (hq : q.testBit t = false) : (sRs L P n q t).testBit t = false := by
  rw [sRs_bit ht t (by omega), hq]
  simp
theorem SI_T (hW : WP L P) {n q t : Nat} {A : Nat → Nat → Nat} (hI : SI L P A) (ht : t < 4) : SI L P (aT L P n q t A) := by
  intro x y h
  unfold aT at h
  by_cases hc : x = n + g7 t ∧ y = sNx L P n q t ∧ (go7 L P n t && !q.testBit t) = true
  · rw [if_pos hc] at h
    by_cases h0 : A x y = 0
    · rw [h0, Nat.zero_add] at h
      obtain ⟨h1, h2, h3, h4⟩ := hI n q h
      obtain ⟨rfl, rfl, hg⟩ := hc
      rw [Bool.and_eq_true] at hg
      have hlt := goS_lt hg.1
      have hL := (hW t ht).1
      have hd := ds7.2.2.2 n t h1 ht (by omega)
      refine ⟨hd.1, msk_lt _, zW_succ ht (g7_pos t).1 hg.1 h3, fun u hu hb => ?_⟩
      unfold sNx at hb
      rw [msk_bit _ hu, Bool.and_eq_true] at hb
      have hne : ¬ u = t := fun e => by
        rw [e, sRs_self ht (by simpa using hg.2)] at hb
        exact absurd hb.1 (by decide)
      rw [hd.2 u hu, if_neg hne, Nat.add_zero]
      exact sRs_nx h4 (by omega) hu hb.1
    · exact hI x y h0
  · rw [if_neg hc] at h
    exact hI x y h
theorem SI_P (hW : WP L P) {n q : Nat} {A : Nat → Nat → Nat} (hI : SI L P A) : ∀ t, t ≤ 4 → SI L P (aP L P n q t A)
  | 0, _ => hI
  | t + 1, ht => SI_T hW (SI_P hW hI t (by omega)) (by omega)
theorem SI_S (hW : WP L P) {n : Nat} {S : (Nat → Nat → Nat) × Nat × Nat} (hI : SI L P S.1) : ∀ q, SI L P (aS L P n q S).1
  | 0 => hI
  | q + 1 => SI_P hW (SI_S hW hI q) 4 (Nat.le_refl _)
theorem SI_R (hW : WP L P) : ∀ n, SI L P (aR L P n).1.1
  | 0 => fun x y h => by
    have h : (if x = 0 ∧ y = 0 then 1 else 0) ≠ 0 := h
    by_cases hc : x = 0 ∧ y = 0
    · obtain ⟨rfl, rfl⟩ := hc
      refine ⟨by decide, by decide, ?_, fun u hu hb => ?_⟩
      · unfold W7; rw [zW_0]; decide
      · rw [Nat.zero_testBit] at hb; cases hb
    · rw [if_neg hc] at h
      exact absurd rfl h
  | n + 1 => SI_S hW (SI_R hW n) 16
/-! no more of them than runs -/
theorem zsm_upd {f : Nat → Nat} {b a : Nat} : ∀ {m : Nat}, b < m → zsm (fun y => if y = b then f y + a else f y) m = zsm f m + a
  | 0, h => by omega
  | m + 1, h => by
    rw [zsm, zsm]
    by_cases e : m = b
    · rw [if_pos e, zsm_congr (g := f) (fun i hi => if_neg (by omega))]
      omega
    · rw [if_neg e, zsm_upd (m := m) (by omega)]
      omega
/-- the bound, while a stand is gone through -/
def sB (L : Nat → Nat) (P : Nat → Nat → Nat) (n a : Nat) (t0 b x : Nat) : Nat := zWp g7 (go7 L P) n 0 x + q4 fun t => if x = n + g7 t ∧ go7 L P n t = true then a + (if t < t0 then b else 0) else 0
theorem sB_T (hW : WP L P) {n q t a : Nat} {A : Nat → Nat → Nat} (ht : t < 4) (h : ∀ x, zsm (A x) 16 ≤ sB L P n a t (A n q) x) : ∀ x, zsm (aT L P n q t A x) 16 ≤ sB L P n a (t + 1) (A n q) x := by
  intro x
  have hx := h x
  by_cases hc : x = n + g7 t ∧ (go7 L P n t && !q.testBit t) = true
  · have e : zsm (aT L P n q t A x) 16 = zsm (A x) 16 + A n q := by
      rw [← zsm_upd (f := A x) (b := sNx L P n q t) (a := A n q) (m := 16) (msk_lt _)]
      refine zsm_congr fun y hy => ?_
      unfold aT
      by_cases e2 : y = sNx L P n q t
      · rw [if_pos ⟨hc.1, e2, hc.2⟩, if_pos e2]
      · rw [if_neg (fun z => e2 z.2.1), if_neg e2]
    have hg : go7 L P n t = true := by
      have := hc.2
      rw [Bool.and_eq_true] at this
      exact this.1
    have e3 : sB L P n a (t + 1) (A n q) x = sB L P n a t (A n q) x + A n q := by
      unfold sB
      rw [Nat.add_assoc]
      congr 1
      refine q4_add ht ?_ fun u hu hne => ?_
      · show (if x = n + g7 t ∧ go7 L P n t = true then a + (if t < t + 1 then A n q else 0) else 0) = (if x = n + g7 t ∧ go7 L P n t = true then a + (if t < t then A n q else 0) else 0) + A n q
        have hcc : x = n + g7 t ∧ go7 L P n t = true := ⟨hc.1, hg⟩
        rw [if_pos hcc, if_pos hcc, if_pos (Nat.lt_succ_self t), if_neg (Nat.lt_irrefl t), Nat.add_zero]
      · by_cases e4 : u < t
        · simp only [e4, show u < t + 1 by omega]
        · simp only [e4, show ¬ u < t + 1 by omega]
    omega
  · have e : zsm (aT L P n q t A x) 16 = zsm (A x) 16 := zsm_congr fun y hy => by
      unfold aT
      exact if_neg (fun z => hc ⟨z.1, z.2.2⟩)
    have e3 : sB L P n a t (A n q) x ≤ sB L P n a (t + 1) (A n q) x := by
      have hle : ∀ u, (if x = n + g7 u ∧ go7 L P n u = true then a + (if u < t then A n q else 0) else 0) ≤ (if x = n + g7 u ∧ go7 L P n u = true then a + (if u < t + 1 then A n q else 0) else 0) := fun u => by
        split
        · by_cases e4 : u < t
          · rw [if_pos e4, if_pos (by omega)]; exact Nat.le_refl _
          · rw [if_neg e4]; omega
        · exact Nat.le_refl _
      unfold sB q4
      dsimp only
      have h0 := hle 0
      have h1 := hle 1
      have h2 := hle 2
      have h3 := hle 3
      omega
    omega
theorem sB_P (hW : WP L P) {n q a : Nat} {A : Nat → Nat → Nat} (h : ∀ x, zsm (A x) 16 ≤ sB L P n a 0 (A n q) x) : ∀ t, t ≤ 4 → ∀ x, zsm (aP L P n q t A x) 16 ≤ sB L P n a t (A n q) x
  | 0, _ => h
  | t + 1, ht => by
    have := sB_T (q := q) hW (A := aP L P n q t A) (a := a) (show t < 4 by omega) (by rw [aP_n (Nat.le_refl n)]; exact sB_P hW h t (by omega))
    rw [aP_n (Nat.le_refl n)] at this
    exact this
theorem sB_4 (n a b x : Nat) : sB L P n a 4 b x = sB L P n (a + b) 0 0 x := by
  unfold sB
  congr 1
theorem sB_0 (n a b x : Nat) : sB L P n a 0 b x = sB L P n a 0 0 x := by
  unfold sB
  rfl
theorem sB_S (hW : WP L P) {n : Nat} {S : (Nat → Nat → Nat) × Nat × Nat} (h : ∀ x, zsm (S.1 x) 16 ≤ zWp g7 (go7 L P) n 0 x) : ∀ q, ∀ x, zsm ((aS L P n q S).1 x) 16 ≤ sB L P n (zsm (S.1 n) q) 0 0 x
  | 0 => fun x => Nat.le_trans (h x) (Nat.le_add_right _ _)
  | q + 1 => fun x => by
    have ih := sB_S hW h q
    have h1 := sB_P (q := q) (a := zsm (S.1 n) q) hW (A := (aS L P n q S).1) (fun x => by rw [sB_0]; exact ih x) 4 (Nat.le_refl _) x
    rw [aS_n (Nat.le_refl n), sB_4] at h1
    exact h1
theorem sB_R (hW : WP L P) : ∀ n, ∀ x, zsm ((aR L P n).1.1 x) 16 ≤ zWp g7 (go7 L P) n 0 x
  | 0 => fun x => by
    rw [zWp_0]
    by_cases hx : x = 0
    · rw [hx]
      show zsm (fun y => if (0 : Nat) = 0 ∧ y = 0 then 1 else 0) 16 ≤ _
      decide
    · rw [if_neg hx, show zsm ((aR L P 0).1.1 x) 16 = zsm (fun _ => 0) 16 from zsm_congr fun i _ => if_neg (fun z => hx z.1)]
      decide
  | n + 1 => fun x => by
    have ih := sB_R hW n
    have h1 := sB_S hW ih 16 x
    have h2 := ih n
    rw [zWp_self] at h2
    refine Nat.le_trans h1 ?_
    have st : ∀ t, t < 4 → zWp g7 (go7 L P) n (t + 1) x = zWp g7 (go7 L P) n t x + if x = n + g7 t ∧ go7 L P n t = true then zW g7 (go7 L P) n else 0 := fun t ht => zWp_st ht (g7_pos t).1 x
    rw [← zWp_4, st 3 (by decide), st 2 (by decide), st 1 (by decide), st 0 (by decide)]
    unfold sB q4
    dsimp only
    have hle : ∀ t, (if x = n + g7 t ∧ go7 L P n t = true then zsm ((aR L P n).1.1 n) 16 + (if t < 0 then 0 else 0) else 0) ≤ if x = n + g7 t ∧ go7 L P n t = true then zW g7 (go7 L P) n else 0 := fun t => by
      split
      · rw [if_neg (by omega)]; exact h2
      · exact Nat.le_refl _
    have h0 := hle 0
    have h1 := hle 1
    have h2 := hle 2
    have h3 := hle 3
    omega
theorem zsm_one {f : Nat → Nat} : ∀ {m i : Nat}, i < m → f i ≤ zsm f m
  | 0, _, h => by omega
  | m + 1, i, h => by
    rw [zsm]
    by_cases e : i = m
    · rw [e]; omega
    · have := zsm_one (f := f) (m := m) (i := i) (by omega)
      omega
/-- while stand n is gone through, what is come to is small -/
theorem aS_small (hW : WP L P) {n q y : Nat} (hn : n < 2401) (hy : y < 16) : (aS L P n q (aR L P n).1).1 n y < 281474976710657 := by
  rw [aS_n (Nat.le_refl n)]
  have h1 := sB_R hW n n
  rw [zWp_self] at h1
  have h2 : zW g7 (go7 L P) n < 281474976710657 := W7_small (P := P) hW hn
  have h3 := zsm_one (f := (aR L P n).1.1 n) hy
  omega
end SL
