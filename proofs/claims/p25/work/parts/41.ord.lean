/-! THE ORDER OF A RUN: what is tied, chains, what can come next. -/
section OD
theorem cm_comm (c d : Nat) : cm c d = cm d c := by
  unfold cm
  by_cases h1 : c % 4 = d % 4
  · have h1' := h1.symm
    by_cases h2 : 2 ≤ c / 4 <;> by_cases h3 : 2 ≤ d / 4 <;> by_cases h4 : c / 4 < 2 <;> by_cases h5 : d / 4 < 2 <;> by_cases h6 : c / 4 = 0 <;> by_cases h7 : d / 4 = 0 <;> simp [h1, h2, h3, h4, h5, h6, h7]
  · have h1' : ¬ d % 4 = c % 4 := fun e => h1 e.symm
    simp [h1, h1']
variable (P : Nat → Nat → Nat) (R : Nat → Nat)
def cd (i : Nat) : Nat := P (R i) (wh R i)
def td (i j : Nat) : Bool := decide (R i = R j) || !cm (cd P R i) (cd P R j)
def mxT (f : Nat → Nat) (k : Nat) : Nat → Nat
  | 0 => 0
  | m + 1 => if (td P R m k && decide (mxT f k m < f m)) = true then f m else mxT f k m
def chF : Nat → Nat → Nat
  | 0, _ => 0
  | k + 1, j => if j = k then mxT P R (chF k) k k + 1 else chF k j
def ch (j : Nat) : Nat := chF P R (j + 1) j
def mxA (f : Nat → Nat) : Nat → Nat
  | 0 => 0
  | m + 1 => if mxA f m < f m then f m else mxA f m
def nst (c u : Nat) : Nat → Nat
  | 0 => 0
  | d + 1 => if cm c (P u d) = true then nst c u d else d + 1
def nd (j u : Nat) : Nat := if u = R j then wh R j else nst P (cd P R j) u (dn R u j)
def alT (s : Nat → Nat) (i : Nat) : Nat → Bool
  | 0 => true
  | m + 1 => alT s i m && (!td P R m i || decide (wh R m < s (R m)))
def cnB (s : Nat → Nat) (i : Nat) : Bool := decide (wh R i = s (R i)) && alT P R s i i
def mgB (s : Nat → Nat) (t : Nat) : Nat → Bool
  | 0 => false
  | i + 1 => mgB s t i || (decide (R i = t) && cnB P R s i)
variable {P : Nat → Nat → Nat} {R : Nat → Nat}
theorem mxT_congr {f g : Nat → Nat} {k : Nat} : ∀ m, (∀ j, j < m → f j = g j) → mxT P R f k m = mxT P R g k m
  | 0, _ => rfl
  | m + 1, h => by
    rw [mxT, mxT, mxT_congr m (fun j hj => h j (by omega)), h m (by omega)]
theorem chF_ch : ∀ n j, j < n → chF P R n j = ch P R j
  | 0, j, h => by omega
  | n + 1, j, h => by
    by_cases e : j = n
    · rw [e]; rfl
    · rw [chF, if_neg e]
      exact chF_ch n j (by omega)
theorem ch_eq (j : Nat) : ch P R j = mxT P R (ch P R) j j + 1 := by
  unfold ch
  rw [chF, if_pos rfl]
  congr 1
  exact mxT_congr j fun i hi => chF_ch j i hi
theorem mxT_ge {f : Nat → Nat} {k : Nat} : ∀ m j, j < m → td P R j k = true → f j ≤ mxT P R f k m
  | 0, j, h, _ => by omega
  | m + 1, j, h, ht => by
    rw [mxT]
    by_cases e : j = m
    · subst e
      by_cases hc : mxT P R f k j < f j
      · rw [if_pos (by rw [ht]; simp [hc])]; exact Nat.le_refl _
      · rw [if_neg (by simp [hc])]; omega
    · have ih := mxT_ge (f := f) m j (by omega) ht
      split
      · rename_i hc
        rw [Bool.and_eq_true] at hc
        have := of_decide_eq_true hc.2
        omega
      · exact ih
theorem mxT_in {f : Nat → Nat} {k : Nat} : ∀ m, mxT P R f k m = 0 ∨ ∃ j, j < m ∧ td P R j k = true ∧ f j = mxT P R f k m
  | 0 => Or.inl rfl
  | m + 1 => by
    rw [mxT]
    split
    · rename_i hc
      rw [Bool.and_eq_true] at hc
      exact Or.inr ⟨m, by omega, hc.1, rfl⟩
    · rcases mxT_in (f := f) (k := k) m with h | ⟨j, h1, h2, h3⟩
      · exact Or.inl h
      · exact Or.inr ⟨j, by omega, h2, h3⟩
theorem ch_lt {i j : Nat} (hij : i < j) (ht : td P R i j = true) : ch P R i < ch P R j := by
  rw [ch_eq j]
  have := mxT_ge (f := ch P R) j i hij ht
  omega
theorem ch_le_self : ∀ j, ch P R j ≤ j + 1 := by
  intro j
  induction j using Nat.strongRecOn with
  | ind j ih =>
    rw [ch_eq]
    rcases mxT_in (P := P) (R := R) (f := ch P R) (k := j) j with h | ⟨i, h1, h2, h3⟩
    · omega
    · have := ih i h1
      omega
theorem wh_lt {i j : Nat} (hij : i < j) (hR : R i = R j) : wh R i < wh R j := by
  unfold wh
  rw [← hR]
  have h1 : dn R (R i) (i + 1) = dn R (R i) i + 1 := by rw [dn, if_pos rfl]
  have h2 := dn_le (R := R) (t := R i) (show i + 1 ≤ j from hij)
  omega
theorem wh_inj {i j : Nat} (hR : R i = R j) (hw : wh R i = wh R j) : i = j := by
  rcases Nat.lt_trichotomy i j with q | q | q
  · have := wh_lt q hR; omega
  · exact q
  · have := wh_lt q hR.symm; omega
theorem wh_dn {i n : Nat} (hi : i < n) : wh R i < dn R (R i) n := by
  have h1 : dn R (R i) (i + 1) = wh R i + 1 := by rw [dn, if_pos rfl]; rfl
  have h2 := dn_le (R := R) (t := R i) (show i + 1 ≤ n from hi)
  omega
theorem ix_ex {t s : Nat} : ∀ n, s < dn R t n → ∃ i, i < n ∧ R i = t ∧ wh R i = s
  | 0, h => by cases h
  | n + 1, h => by
    rw [dn] at h
    by_cases e : R n = t
    · rw [if_pos e] at h
      by_cases e2 : s = dn R t n
      · exact ⟨n, by omega, e, by unfold wh; rw [e, e2]⟩
      · obtain ⟨i, h1, h2⟩ := ix_ex n (show s < dn R t n by omega)
        exact ⟨i, by omega, h2⟩
    · rw [if_neg e] at h
      obtain ⟨i, h1, h2⟩ := ix_ex n (show s < dn R t n by omega)
      exact ⟨i, by omega, h2⟩
theorem nst_le (c u : Nat) : ∀ d, nst P c u d ≤ d
  | 0 => Nat.le_refl _
  | d + 1 => by
    rw [nst]
    have := nst_le c u d
    split <;> omega
theorem nst_in (c u : Nat) : ∀ d, nst P c u d ≠ 0 → cm c (P u (nst P c u d - 1)) = false
  | 0, h => absurd rfl h
  | d + 1, h => by
    rw [nst] at h ⊢
    by_cases hc : cm c (P u d) = true
    · rw [if_pos hc] at h ⊢
      exact nst_in c u d h
    · rw [if_neg hc]
      show cm c (P u d) = false
      simpa using hc
theorem nst_ge (c u : Nat) : ∀ d s, s < d → cm c (P u s) = false → s < nst P c u d
  | 0, s, h, _ => by omega
  | d + 1, s, h, hc => by
    rw [nst]
    by_cases e : s = d
    · subst e
      rw [if_neg (by rw [hc]; decide)]
      omega
    · have := nst_ge c u d s (by omega) hc
      split <;> omega
theorem nd_ge {i j : Nat} (hij : i < j) (ht : td P R i j = true) : wh R i < nd P R j (R i) := by
  unfold nd
  by_cases e : R i = R j
  · rw [if_pos e]
    exact wh_lt hij e
  · rw [if_neg e]
    refine nst_ge _ _ _ _ (wh_dn hij) ?_
    unfold td at ht
    rw [Bool.or_eq_true] at ht
    rcases ht with ht | ht
    · exact absurd (of_decide_eq_true ht) e
    · rw [cm_comm]
      unfold cd at ht
      simpa [cd] using ht
theorem nd_in {j u : Nat} (h : nd P R j u ≠ 0) : ∃ i, i < j ∧ R i = u ∧ td P R i j = true ∧ wh R i = nd P R j u - 1 := by
  unfold nd at h ⊢
  by_cases e : u = R j
  · rw [if_pos e] at h ⊢
    obtain ⟨i, h1, h2, h3⟩ := ix_ex (R := R) (t := R j) (s := wh R j - 1) j (by
      show wh R j - 1 < wh R j
      omega)
    refine ⟨i, h1, by rw [h2, e], ?_, h3⟩
    unfold td
    simp [h2]
  · rw [if_neg e] at h ⊢
    have hle := nst_le (P := P) (cd P R j) u (dn R u j)
    obtain ⟨i, h1, h2, h3⟩ := ix_ex (R := R) (t := u) (s := nst P (cd P R j) u (dn R u j) - 1) j (by omega)
    refine ⟨i, h1, h2, ?_, h3⟩
    have := nst_in (P := P) _ u _ h
    have e2 : cd P R i = P u (nst P (cd P R j) u (dn R u j) - 1) := by
      unfold cd
      rw [h2, h3]
      rfl
    unfold td
    rw [cm_comm, e2, this]
    simp
theorem nd_le {j u : Nat} : nd P R j u ≤ dn R u j := by
  unfold nd
  split
  · rename_i e
    rw [e]
    exact Nat.le_refl _
  · exact nst_le _ _ _
theorem alT_iff {s : Nat → Nat} {i : Nat} : ∀ m, alT P R s i m = true ↔ ∀ j, j < m → td P R j i = true → wh R j < s (R j)
  | 0 => ⟨fun _ j hj => by omega, fun _ => rfl⟩
  | m + 1 => by
    rw [alT, Bool.and_eq_true, alT_iff m]
    constructor
    · rintro ⟨h1, h2⟩ j hj ht
      by_cases e : j = m
      · subst e
        rw [ht] at h2
        simpa using h2
      · exact h1 j (by omega) ht
    · intro h
      refine ⟨fun j hj => h j (by omega), ?_⟩
      cases ht : td P R m i with
      | false => rfl
      | true => simp [h m (by omega) ht]
theorem alT_nd {s : Nat → Nat} {i : Nat} (hR : ∀ j, j < i → R j < 4) : alT P R s i i = true ↔ ∀ u, u < 4 → nd P R i u ≤ s u := by
  rw [alT_iff]
  constructor
  · intro h u hu
    by_cases h0 : nd P R i u = 0
    · omega
    · obtain ⟨j, h1, h2, h3, h4⟩ := nd_in h0
      have := h j h1 h3
      rw [h2] at this
      omega
  · intro h j hj ht
    have h1 := nd_ge hj ht
    have h2 := h (R j) (hR j hj)
    omega
theorem mgB_iff {s : Nat → Nat} {t : Nat} : ∀ n, mgB P R s t n = true ↔ ∃ i, i < n ∧ R i = t ∧ cnB P R s i = true
  | 0 => ⟨fun h => (by cases h), fun ⟨i, h, _⟩ => (by omega)⟩
  | n + 1 => by
    rw [mgB, Bool.or_eq_true, mgB_iff n]
    constructor
    · rintro (⟨i, h1, h2⟩ | h)
      · exact ⟨i, by omega, h2⟩
      · rw [Bool.and_eq_true] at h
        exact ⟨n, by omega, of_decide_eq_true h.1, h.2⟩
    · rintro ⟨i, h1, h2, h3⟩
      by_cases e : i = n
      · right
        rw [← e, h2, h3]
        simp
      · exact Or.inl ⟨i, by omega, h2, h3⟩
theorem cnB_wh {s : Nat → Nat} {i : Nat} (h : cnB P R s i = true) : wh R i = s (R i) := by
  unfold cnB at h
  rw [Bool.and_eq_true] at h
  exact of_decide_eq_true h.1
/-- what may go, by the step that is next -/
theorem mgB_ix {s : Nat → Nat} {i n : Nat} (hi : i < n) (hw : wh R i = s (R i)) : mgB P R s (R i) n = alT P R s i i := by
  cases h : alT P R s i i with
  | true => exact (mgB_iff n).mpr ⟨i, hi, rfl, by unfold cnB; rw [h]; simp [hw]⟩
  | false =>
    cases hm : mgB P R s (R i) n with
    | false => rfl
    | true =>
      obtain ⟨j, h1, h2, h3⟩ := (mgB_iff n).mp hm
      have e : j = i := wh_inj h2 (by rw [cnB_wh h3, hw, h2])
      subst e
      unfold cnB at h3
      rw [h] at h3
      simp at h3
theorem mgB_lt {s : Nat → Nat} {t n : Nat} (h : mgB P R s t n = true) : s t < dn R t n := by
  obtain ⟨j, h1, h2, h3⟩ := (mgB_iff n).mp h
  have := wh_dn (R := R) h1
  rw [h2] at this
  rw [cnB_wh h3, h2] at this
  exact this
theorem mxA_le {f : Nat → Nat} {b : Nat} : ∀ m, (∀ i, i < m → f i ≤ b) → mxA f m ≤ b
  | 0, _ => Nat.zero_le _
  | m + 1, h => by
    rw [mxA]
    have := mxA_le m fun i hi => h i (by omega)
    have := h m (by omega)
    split <;> omega
end OD
