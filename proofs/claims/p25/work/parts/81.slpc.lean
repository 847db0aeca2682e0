/-! SLEEP SETS COME TO ALL STANDS. -/
section SC
variable {L : Nat → Nat} {P : Nat → Nat → Nat}
theorem d7_mv {n t : Nat} (hn : n < 2401) (ht : t < 4) (h6 : d7 n t < 6) : d7 (n + g7 t) = mv (d7 n) t := by
  funext u
  unfold mv
  by_cases hu : u < 4
  · rw [(ds7.2.2.2 n t hn ht h6).2 u hu]
    by_cases e : u = t
    · rw [if_pos e, if_pos e]
    · rw [if_neg e, if_neg e]; rfl
  · rw [if_neg (by omega)]
    unfold d7
    rw [if_neg hu, if_neg hu]
theorem d7_zero : d7 0 = fun _ => 0 := by
  funext u
  unfold d7
  split <;> simp
def num : Nat → List Nat → Nat
  | n, [] => n
  | n, t :: w => num (n + g7 t) w
theorem num_app : ∀ (a : List Nat) (n : Nat) (b : List Nat), num n (a ++ b) = num (num n a) b
  | [], _, _ => rfl
  | t :: a, n, b => num_app a (n + g7 t) b
theorem num_all (hW : WP L P) : ∀ (w : List Nat) (n : Nat), n < 2401 → W7 L P n ≠ 0 → rn L P (d7 n) w → num n w < 2401 ∧ W7 L P (num n w) ≠ 0 ∧ d7 (num n w) = en (d7 n) w
  | [], n, hn, hz, _ => ⟨hn, hz, rfl⟩
  | t :: w, n, hn, hz, h => by
    have h : t < 4 ∧ goS L P (d7 n) t = true ∧ rn L P (mv (d7 n) t) w := h
    have hlt := goS_lt h.2.1
    have hL := (hW t h.1).1
    have e := d7_mv hn h.1 (show d7 n t < 6 by omega)
    obtain ⟨s1, s2, -, -⟩ := go7_st hW hn hz h.1 h.2.1
    have ih := num_all hW w (n + g7 t) s1 s2 (by rw [e]; exact h.2.2)
    rw [e] at ih
    exact ih
/-- a stand that can be come to has a row of goes to it -/
theorem row_ex (hW : WP L P) : ∀ n, n < 2401 → W7 L P n ≠ 0 → ∃ w, rn L P (d7 0) w ∧ num 0 w = n := by
  intro n
  induction n using Nat.strongRecOn with
  | ind n ih =>
    intro hn hz
    rcases zW_pred hz with rfl | ⟨t, ht, h1, h2, h3, h4⟩
    · exact ⟨[], trivial, rfl⟩
    · obtain ⟨w, g1, g2⟩ := ih (n - g7 t) (by omega) (by omega) h4
      have hz0 : W7 L P 0 ≠ 0 := by unfold W7; rw [zW_0]; decide
      obtain ⟨-, -, k3⟩ := num_all hW w 0 (by decide) hz0 g1
      rw [g2] at k3
      refine ⟨w ++ [t], (rn_app w _ _).mpr ⟨g1, ht, ?_, trivial⟩, ?_⟩
      · rw [← k3]; exact h3
      · rw [num_app, g2]
        show n - g7 t + g7 t = n
        omega
/-! what is come to stays, and goes on -/
theorem aT_ge {n q t : Nat} {A : Nat → Nat → Nat} (x y : Nat) : A x y ≤ aT L P n q t A x y := by
  unfold aT
  split
  · exact Nat.le_add_right _ _
  · exact Nat.le_refl _
theorem aP_ge {n q : Nat} {A : Nat → Nat → Nat} (x y : Nat) {a : Nat} : ∀ b, a ≤ b → aP L P n q a A x y ≤ aP L P n q b A x y := fun b h => by
  induction h with
  | refl => exact Nat.le_refl _
  | step _ ih => exact Nat.le_trans ih (aT_ge x y)
theorem aS_ge {n : Nat} {S : (Nat → Nat → Nat) × Nat × Nat} (x y : Nat) {a : Nat} : ∀ b, a ≤ b → (aS L P n a S).1 x y ≤ (aS L P n b S).1 x y := fun b h => by
  induction h with
  | refl => exact Nat.le_refl _
  | step _ ih => exact Nat.le_trans ih (aP_ge (L := L) (P := P) x y (a := 0) 4 (by decide))
theorem aR_ge (x y : Nat) {a : Nat} : ∀ b, a ≤ b → (aR L P a).1.1 x y ≤ (aR L P b).1.1 x y := fun b h => by
  induction h with
  | refl => exact Nat.le_refl _
  | step _ ih => exact Nat.le_trans ih (aS_ge x y (a := 0) 16 (by decide))
/-- how often a stand is explored with a set -/
def cO (L : Nat → Nat) (P : Nat → Nat → Nat) (n q : Nat) : Nat := (aR L P n).1.1 n q
theorem cO_0 : cO L P 0 0 = 1 := rfl
theorem cO_go {n q t : Nat} (hq : q < 16) (ht : t < 4) (hg : go7 L P n t = true) (hb : q.testBit t = false) (h : cO L P n q ≠ 0) : cO L P (n + g7 t) (sNx L P n q t) ≠ 0 := by
  have hgp := (g7_pos t).1
  have e1 : (aT L P n q t (aP L P n q t (aS L P n q (aR L P n).1).1)) (n + g7 t) (sNx L P n q t) = aP L P n q t (aS L P n q (aR L P n).1).1 (n + g7 t) (sNx L P n q t) + cO L P n q := by
    have hh : (go7 L P n t && !q.testBit t) = true := by rw [hg, hb]; rfl
    unfold aT
    rw [if_pos ⟨rfl, rfl, hh⟩, aP_n (Nat.le_refl n), aS_n (Nat.le_refl n)]
    rfl
  have e2 : aT L P n q t (aP L P n q t (aS L P n q (aR L P n).1).1) = aP L P n q (t + 1) (aS L P n q (aR L P n).1).1 := rfl
  have i1 := aP_ge (L := L) (P := P) (n := n) (q := q) (A := (aS L P n q (aR L P n).1).1) (n + g7 t) (sNx L P n q t) (a := t + 1) 4 (by omega)
  have e3 : aP L P n q 4 (aS L P n q (aR L P n).1).1 = (aS L P n (q + 1) (aR L P n).1).1 := rfl
  have i2 := aS_ge (L := L) (P := P) (n := n) (S := (aR L P n).1) (n + g7 t) (sNx L P n q t) (a := q + 1) 16 (by omega)
  have e4 : (aS L P n 16 (aR L P n).1).1 = (aR L P (n + 1)).1.1 := rfl
  have i3 := aR_ge (L := L) (P := P) (n + g7 t) (sNx L P n q t) (a := n + 1) (n + g7 t) (by omega)
  rw [e2] at e1
  rw [e3] at i1
  rw [e4] at i2
  show (aR L P (n + g7 t)).1.1 (n + g7 t) (sNx L P n q t) ≠ 0
  have : cO L P n q ≤ (aR L P (n + g7 t)).1.1 (n + g7 t) (sNx L P n q t) := by
    refine Nat.le_trans ?_ (Nat.le_trans i1 (Nat.le_trans i2 i3))
    rw [e1]
    exact Nat.le_add_left _ _
  omega
theorem least4 {Q : Nat → Prop} {x : Nat} (hx : x < 4) (h : Q x) : ∃ t, t < 4 ∧ Q t ∧ ∀ u, u < t → ¬ Q u := by
  by_cases h0 : Q 0
  · exact ⟨0, by decide, h0, fun u hu => by omega⟩
  · by_cases h1 : Q 1
    · refine ⟨1, by decide, h1, fun u hu => ?_⟩
      rw [show u = 0 by omega]; exact h0
    · by_cases h2 : Q 2
      · refine ⟨2, by decide, h2, fun u hu => ?_⟩
        rcases (show u = 0 ∨ u = 1 by omega) with rfl | rfl
        · exact h0
        · exact h1
      · refine ⟨3, by decide, ?_, fun u hu => ?_⟩
        · rcases four hx with rfl | rfl | rfl | rfl
          · exact absurd h h0
          · exact absurd h h1
          · exact absurd h h2
          · exact h
        · rcases (show u = 0 ∨ u = 1 ∨ u = 2 by omega) with rfl | rfl | rfl
          · exact h0
          · exact h1
          · exact h2
theorem slp_come (hW : WP L P) : ∀ (k : Nat) (w : List Nat) (n q : Nat), w.length = k → n < 2401 → W7 L P n ≠ 0 → q < 16 → cO L P n q ≠ 0 → rn L P (d7 n) w → (∀ t, t < 4 → q.testBit t = true → ¬ ini P (d7 n) t w) → ∃ q', q' < 16 ∧ cO L P (num n w) q' ≠ 0 := by
  intro k
  induction k with
  | zero =>
    intro w n q hk hn hz hq hc hr hi
    cases w with
    | nil => exact ⟨q, hq, hc⟩
    | cons x w => cases hk
  | succ k ih =>
    intro w n q hk hn hz hq hc hr hi
    cases w with
    | nil => cases hk
    | cons x w0 =>
      have hx : x < 4 := hr.1
      obtain ⟨t, ht, hit, hmin⟩ := least4 (Q := fun t => ini P (d7 n) t (x :: w0)) hx ⟨[], w0, rfl, List.not_mem_nil, trivial⟩
      have htq : q.testBit t = false := by
        cases hb : q.testBit t with
        | false => rfl
        | true => exact absurd hit (hi t ht hb)
      obtain ⟨a, b, e, ha, hca⟩ := hit
      rw [e] at hr
      obtain ⟨-, g1, g2, g3⟩ := front a (d7 n) b hr ha hca
      have hlt := goS_lt g1
      have hL := (hW t ht).1
      have ed := d7_mv hn ht (show d7 n t < 6 by omega)
      obtain ⟨s1, s2, -, -⟩ := go7_st hW hn hz ht g1
      have hc' := cO_go hq ht g1 htq hc
      rw [← ed] at g2
      obtain ⟨q', k1, k2⟩ := ih (a ++ b) (n + g7 t) (sNx L P n q t) (by
        rw [e] at hk
        simp at hk ⊢
        omega) s1 s2 (msk_lt _) hc' g2 (fun u hu hb hiu => by
        unfold sNx at hb
        rw [msk_bit _ hu, Bool.and_eq_true, sRs_bit hu t (by omega), Bool.or_eq_true] at hb
        have hut : u ≠ t := fun e => by
          rw [e, htq] at hb
          rcases hb.1 with h | h
          · cases h
          · rw [Bool.and_eq_true] at h
            have := of_decide_eq_true h.1
            omega
        rw [ed] at hiu
        have hback := ini_back hut ha hb.2 hiu
        rw [← e] at hback
        rcases hb.1 with h | h
        · exact hi u hu h hback
        · rw [Bool.and_eq_true] at h
          exact hmin u (of_decide_eq_true h.1) hback)
      refine ⟨q', k1, ?_⟩
      have hz0 := num_all hW (a ++ b) (n + g7 t) s1 s2 g2
      have hz1 := num_all hW (a ++ t :: b) n hn hz hr
      have : num (n + g7 t) (a ++ b) = num n (a ++ t :: b) := by
        have hcm : ∀ (a : List Nat) (m : Nat), num (m + g7 t) (a ++ b) = num m (a ++ t :: b) := by
          intro a
          induction a with
          | nil => intro m; rfl
          | cons y a iha =>
            intro m
            show num (m + g7 t + g7 y) (a ++ b) = num (m + g7 y) (a ++ t :: b)
            rw [show m + g7 t + g7 y = m + g7 y + g7 t by omega, iha]
        exact hcm a n
      rw [e, ← this]
      exact k2
/-- each stand that can be come to is explored with some set -/
theorem slp_all (hW : WP L P) {n : Nat} (hn : n < 2401) (hz : W7 L P n ≠ 0) : zsm (cO L P n) 16 ≠ 0 := by
  obtain ⟨w, h1, h2⟩ := row_ex hW n hn hz
  have hz0 : W7 L P 0 ≠ 0 := by unfold W7; rw [zW_0]; decide
  obtain ⟨q, h3, h4⟩ := slp_come hW w.length w 0 0 rfl (by decide) hz0 (by decide) (by rw [cO_0]; decide) h1 (fun t _ hb => by rw [Nat.zero_testBit] at hb; cases hb)
  rw [h2] at h4
  have := zsm_one (f := cO L P n) h3
  omega
theorem cO_no (hW : WP L P) {n : Nat} (hz : W7 L P n = 0) (q : Nat) : cO L P n q = 0 := by
  by_cases h : cO L P n q = 0
  · exact h
  · exact absurd hz (SI_R hW n n q h).2.2.1
theorem cO_le (hW : WP L P) (n : Nat) : zsm (cO L P n) 16 ≤ W7 L P n := by
  have h1 := sB_R hW n n
  rw [zWp_self] at h1
  exact h1
/-! the three counts -/
theorem aR_dead (hW : WP L P) : ∀ n, n ≤ 2401 → (aR L P n).2 = zsm (nd7 L P) n
  | 0, _ => rfl
  | n + 1, hn => by
    show (aR L P n).2 + (if (!decide (zsm ((aR L P n).1.1 n) 16 = 0) && deadS L P (d7 n)) = true then 1 else 0) = zsm (nd7 L P) n + nd7 L P n
    rw [aR_dead hW n (by omega)]
    congr 1
    unfold nd7 dB7
    have e : decide (zsm ((aR L P n).1.1 n) 16 = 0) = decide (W7 L P n = 0) := by
      refine decide_eq_decide.mpr ⟨fun h => ?_, fun h => ?_⟩
      · by_cases hz : W7 L P n = 0
        · exact hz
        · exact absurd h (slp_all hW (by omega) hz)
      · have := cO_le hW n
        have h2 : zsm ((aR L P n).1.1 n) 16 ≤ W7 L P n := this
        omega
    rw [e]
theorem aS_ends {n : Nat} {S : (Nat → Nat → Nat) × Nat × Nat} : ∀ q, (aS L P n q S).2.1 = S.2.1 + if anG L P n 4 = true then 0 else zsm (S.1 n) q
  | 0 => by
    show S.2.1 = S.2.1 + if anG L P n 4 = true then 0 else 0
    split <;> rfl
  | q + 1 => by
    show (aS L P n q S).2.1 + (if anG L P n 4 = true then 0 else (aS L P n q S).1 n q) = _
    rw [aS_ends q, aS_n (Nat.le_refl n)]
    by_cases h : anG L P n 4 = true
    · rw [if_pos h, if_pos h, if_pos h]
    · rw [if_neg h, if_neg h, if_neg h, zsm]
      omega
theorem aS_cuts {n : Nat} {S : (Nat → Nat → Nat) × Nat × Nat} : ∀ q, (aS L P n q S).2.2 ≤ S.2.2 + zsm (S.1 n) q
  | 0 => Nat.le_refl _
  | q + 1 => by
    have := aS_cuts (n := n) (S := S) q
    show (aS L P n q S).2.2 + (if (anG L P n 4 && !wnG L P n q 4) = true then (aS L P n q S).1 n q else 0) ≤ _
    rw [aS_n (Nat.le_refl n), zsm]
    split <;> omega
def sE (L : Nat → Nat) (P : Nat → Nat → Nat) (n : Nat) : Nat := if anG L P n 4 = true then 0 else zsm (cO L P n) 16
theorem aR_ends : ∀ n, (aR L P n).1.2.1 = zsm (sE L P) n
  | 0 => rfl
  | n + 1 => by
    show (aS L P n 16 (aR L P n).1).2.1 = zsm (sE L P) n + sE L P n
    rw [aS_ends, aR_ends n]
    rfl
theorem aR_cuts (hW : WP L P) : ∀ n, n ≤ 2401 → (aR L P n).1.2.2 ≤ n * 281474976710657
  | 0, _ => Nat.zero_le _
  | n + 1, hn => by
    have h1 := aS_cuts (L := L) (P := P) (n := n) (S := (aR L P n).1) 16
    have h2 := aR_cuts hW n (by omega)
    have h3 := cO_le hW n
    have h4 : zsm ((aR L P n).1.1 n) 16 ≤ W7 L P n := h3
    have h5 : W7 L P n < 281474976710657 := W7_small (P := P) hW (by omega)
    show (aS L P n 16 (aR L P n).1).2.2 ≤ _
    omega
end SC
