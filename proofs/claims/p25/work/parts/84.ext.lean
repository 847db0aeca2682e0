/-! RUNS THAT ARE ALIKE: rows of the same steps in another order that keeps what does not commute. -/
section EXT
variable {L : Nat → Nat} {P : Nat → Nat → Nat} {n : Nat} {R Q : Nat → Nat}
theorem td_sym (R : Nat → Nat) (i j : Nat) : td P R i j = td P R j i := by
  unfold td
  rw [cm_comm]
  congr 1
  exact decide_eq_decide.mpr ⟨Eq.symm, Eq.symm⟩
def pr (Q R : Nat → Nat) (i j : Nat) : Prop := Q i = R j ∧ wh Q i = wh R j
theorem pr_td {i j i' j' : Nat} (h : pr Q R i j) (h' : pr Q R i' j') : td P Q i' i = td P R j' j := by
  unfold td cd
  rw [h.1, h.2, h'.1, h'.2]
/-- the same steps, in an order that is the same for those that do not commute -/
def Pm (P : Nat → Nat → Nat) (Q R : Nat → Nat) (n : Nat) : Prop :=
  (∀ j, j < n → ∃ i, i < n ∧ pr Q R i j) ∧ (∀ i, i < n → ∃ j, j < n ∧ pr Q R i j) ∧ ∀ i i' j j', i < n → i' < n → j < n → j' < n → pr Q R i j → pr Q R i' j' → td P R j' j = true → (i' < i ↔ j' < j)
theorem Pm.symm (h : Pm P Q R n) : Pm P R Q n :=
  ⟨fun j hj => by obtain ⟨i, h1, h2⟩ := h.2.1 j hj; exact ⟨i, h1, h2.1.symm, h2.2.symm⟩,
   fun j hj => by obtain ⟨i, h1, h2⟩ := h.1 j hj; exact ⟨i, h1, h2.1.symm, h2.2.symm⟩,
   fun i i' j j' hi hi' hj hj' p p' ht => by
    have q : pr Q R j i := ⟨p.1.symm, p.2.symm⟩
    have q' : pr Q R j' i' := ⟨p'.1.symm, p'.2.symm⟩
    rw [pr_td q q'] at ht
    exact (h.2.2 j j' i i' hj hj' hi hi' q q' ht).symm⟩
/-- a row of goes, each of which may come next -/
def LE (P : Nat → Nat → Nat) (R : Nat → Nat) (n : Nat) (Q : Nat → Nat) : Prop := (∀ i, i < n → Q i < 4) ∧ ∀ i, i < n → mgB P R (sd Q i) (Q i) n = true
theorem LE_le (h : LE P R n Q) (u : Nat) : ∀ i, i ≤ n → dn Q u i ≤ dn R u n
  | 0, _ => Nat.zero_le _
  | i + 1, hi => by
    have ih := LE_le h u i (by omega)
    rw [dn]
    by_cases e : Q i = u
    · rw [if_pos e, ← e]
      exact mgB_lt (h.2 i (by omega))
    · rw [if_neg e]
      exact ih
theorem LE_eq (hR : ∀ i, i < n → R i < 4) (h : LE P R n Q) {u : Nat} (hu : u < 4) : dn Q u n = dn R u n := by
  have a := dn_len hR n (Nat.le_refl _)
  have b := dn_len h.1 n (Nat.le_refl _)
  unfold len4 at a b
  dsimp only at a b
  have q0 := LE_le h 0 n (Nat.le_refl _)
  have q1 := LE_le h 1 n (Nat.le_refl _)
  have q2 := LE_le h 2 n (Nat.le_refl _)
  have q3 := LE_le h 3 n (Nat.le_refl _)
  rcases four hu with rfl | rfl | rfl | rfl <;> omega
theorem LE_pr (h : LE P R n Q) {i : Nat} (hi : i < n) : ∃ j, j < n ∧ pr Q R i j ∧ ∀ j', j' < j → td P R j' j = true → wh R j' < dn Q (R j') i := by
  obtain ⟨j, h1, h2, h3⟩ := (mgB_iff n).mp (h.2 i hi)
  have hw := cnB_wh h3
  unfold cnB at h3
  rw [Bool.and_eq_true] at h3
  refine ⟨j, h1, ⟨h2.symm, ?_⟩, (alT_iff j).mp h3.2⟩
  rw [hw, h2]
  rfl
theorem pr_uni {i j j' : Nat} (h : pr Q R i j) (h' : pr Q R i j') : j = j' := wh_inj (h.1.symm.trans h'.1) (h.2.symm.trans h'.2)
theorem LE_before (h : LE P R n Q) {i i' j j' : Nat} (hi : i < n) (p : pr Q R i j) (p' : pr Q R i' j') (hj : j' < j) (ht : td P R j' j = true) : i' < i := by
  obtain ⟨k, k1, k2, k3⟩ := LE_pr h hi
  have e := pr_uni p k2
  subst e
  have h1 := k3 j' hj ht
  rw [← p'.1, ← p'.2] at h1
  by_cases hlt : i' < i
  · exact hlt
  · have h2 := dn_le (R := Q) (t := Q i') (show i ≤ i' by omega)
    have h3 : wh Q i' = dn Q (Q i') i' := rfl
    omega
theorem LE_Pm (hR : ∀ i, i < n → R i < 4) (h : LE P R n Q) : Pm P Q R n := by
  refine ⟨fun j hj => ?_, fun i hi => ?_, fun i i' j j' hi hi' hj hj' p p' ht => ⟨fun hlt => ?_, fun hlt => LE_before h hi p p' hlt ht⟩⟩
  · have h1 := wh_dn (R := R) hj
    rw [← LE_eq hR h (hR j hj)] at h1
    obtain ⟨i, h2, h3, h4⟩ := ix_ex n h1
    exact ⟨i, h2, h3, h4⟩
  · obtain ⟨j, h1, h2, -⟩ := LE_pr h hi
    exact ⟨j, h1, h2⟩
  · rcases Nat.lt_trichotomy j' j with q | q | q
    · exact q
    · exfalso
      subst q
      have : i = i' := wh_inj (p.1.trans p'.1.symm) (p.2.trans p'.2.symm)
      omega
    · exfalso
      rw [td_sym] at ht
      have := LE_before h hi' p' p q ht
      omega
/-! chains -/
theorem Pm_ch (h : Pm P Q R n) : ∀ j i, j < n → i < n → pr Q R i j → ch P Q i = ch P R j := by
  intro j
  induction j using Nat.strongRecOn with
  | ind j ih =>
    intro i hj hi p
    rw [ch_eq, ch_eq]
    congr 1
    apply Nat.le_antisymm
    · rcases mxT_in (P := P) (R := Q) (f := ch P Q) (k := i) i with h0 | ⟨i', h1, h2, h3⟩
      · rw [h0]; exact Nat.zero_le _
      · obtain ⟨j', g1, g2⟩ := h.2.1 i' (by omega)
        rw [pr_td p g2] at h2
        have hlt := (h.2.2 i i' j j' hi (by omega) hj g1 p g2 h2).mp h1
        rw [← h3, ih j' hlt i' g1 (by omega) g2]
        exact mxT_ge j j' hlt h2
    · rcases mxT_in (P := P) (R := R) (f := ch P R) (k := j) j with h0 | ⟨j', h1, h2, h3⟩
      · rw [h0]; exact Nat.zero_le _
      · obtain ⟨i', g1, g2⟩ := h.1 j' (by omega)
        have hlt := (h.2.2 i i' j j' hi g1 hj (by omega) p g2 h2).mpr h1
        rw [← pr_td p g2] at h2
        rw [← h3, ← ih j' h1 i' (by omega) g1 g2]
        exact mxT_ge i i' hlt h2
theorem mxA_ge {f : Nat → Nat} : ∀ m i, i < m → f i ≤ mxA f m
  | 0, i, h => absurd h (Nat.not_lt_zero _)
  | m + 1, i, h => by
    rw [mxA]
    by_cases e : i = m
    · subst e
      split <;> omega
    · have := mxA_ge (f := f) m i (by omega)
      split <;> omega
theorem Pm_max (h : Pm P Q R n) : mxA (ch P Q) n = mxA (ch P R) n := by
  apply Nat.le_antisymm
  · refine mxA_le n fun i hi => ?_
    obtain ⟨j, g1, g2⟩ := h.2.1 i hi
    rw [Pm_ch h j i g1 hi g2]
    exact mxA_ge n j g1
  · refine mxA_le n fun j hj => ?_
    obtain ⟨i, g1, g2⟩ := h.1 j hj
    rw [← Pm_ch h j i hj g1 g2]
    exact mxA_ge n i g1
/-! who may go next -/
theorem Pm_mg1 (h : Pm P Q R n) {s : Nat → Nat} {t : Nat} (hm : mgB P R s t n = true) : mgB P Q s t n = true := by
  obtain ⟨j, h1, h2, h3⟩ := (mgB_iff n).mp hm
  have hw := cnB_wh h3
  unfold cnB at h3
  rw [Bool.and_eq_true] at h3
  have ha := (alT_iff j).mp h3.2
  obtain ⟨i, g1, g2⟩ := h.1 j h1
  refine (mgB_iff n).mpr ⟨i, g1, g2.1.trans h2, ?_⟩
  unfold cnB
  rw [Bool.and_eq_true]
  refine ⟨decide_eq_true (by rw [g2.2, hw, g2.1]), (alT_iff i).mpr fun i' hi' ht => ?_⟩
  obtain ⟨j', k1, k2⟩ := h.2.1 i' (by omega)
  rw [pr_td g2 k2] at ht
  have hlt := (h.2.2 i i' j j' g1 (by omega) h1 k1 g2 k2 ht).mp hi'
  rw [k2.2, k2.1]
  exact ha j' hlt ht
theorem Pm_mg (h : Pm P Q R n) (s : Nat → Nat) (t : Nat) : mgB P Q s t n = mgB P R s t n := by
  cases hr : mgB P R s t n with
  | true => exact Pm_mg1 h hr
  | false =>
    cases hq : mgB P Q s t n with
    | false => rfl
    | true =>
      have := Pm_mg1 h.symm hq
      rw [hr] at this
      cases this
theorem Pm_ltR (h : Pm P Q R n) (s : Nat → Nat) : ltR P Q n s = ltR P R n s := by
  unfold ltR
  rw [Pm_mg h, Pm_mg h, Pm_mg h, Pm_mg h]
theorem Pm_lpS (h : Pm P Q R n) : ∀ i, lpS P Q n i = lpS P R n i
  | 0 => rfl
  | i + 1 => by
    funext u
    rw [lpS, lpS, Pm_lpS h i, Pm_ltR h]
theorem Pm_LR (h : Pm P Q R n) (i : Nat) : LR P Q n i = LR P R n i := by
  unfold LR
  rw [Pm_lpS h, Pm_ltR h]
theorem Pm_WO (h : Pm P Q R n) : WO8 P Q n = WO8 P R n := by
  unfold WO8
  congr 1
  funext i t
  exact Pm_mg h (d8 i) t
/-! the least run -/
theorem sd_LR (i : Nat) : sd (LR P R n) i = lpS P R n i := by
  funext u
  exact (lpS_dn u i).symm
theorem LR_LE (hR : ∀ i, i < n → R i < 4) : LE P R n (LR P R n) := by
  refine ⟨fun i hi => (lp_all (P := P) hR i (by omega)).2.2 hi, fun i hi => ?_⟩
  rw [sd_LR]
  exact (ltR_mg (P := P) (R := R) (n := n) ((lp_all (P := P) hR i (by omega)).2.2 hi)).1
/-- a run is one of those that are alike to it -/
theorem self_mg {i : Nat} (hi : i < n) : mgB P R (sd R i) (R i) n = true := by
  refine (mgB_iff n).mpr ⟨i, hi, rfl, ?_⟩
  unfold cnB
  rw [Bool.and_eq_true]
  refine ⟨decide_eq_true rfl, (alT_iff i).mpr fun j hj _ => ?_⟩
  show dn R (R j) j < dn R (R j) i
  have h1 := dn_le (R := R) (t := R j) (show j + 1 ≤ i from hj)
  have h2 : dn R (R j) (j + 1) = dn R (R j) j + 1 := by rw [dn, if_pos rfl]
  omega
theorem self_LE (hR : ∀ i, i < n → R i < 4) : LE P R n R := ⟨hR, fun i hi => self_mg hi⟩
theorem dn_cg {A B : Nat → Nat} {k : Nat} (h : ∀ j, j < k → A j = B j) (u : Nat) : dn A u k = dn B u k := by
  induction k with
  | zero => rfl
  | succ k ih => rw [dn, dn, ih fun j hj => h j (by omega), h k (by omega)]
theorem LR_lex (hR : ∀ i, i < n → R i < 4) {k : Nat} (hk : k < n) (he : ∀ j, j < k → LR P R n j = R j) : LR P R n k ≤ R k := by
  have e : lpS P R n k = sd R k := by
    rw [← sd_LR]
    funext u
    exact dn_cg he u
  have h1 := (ltR_mg (P := P) (R := R) (n := n) ((lp_all (P := P) hR k (by omega)).2.2 hk)).2
  by_cases hle : LR P R n k ≤ R k
  · exact hle
  · exfalso
    have h2 := h1 (R k) (by show R k < LR P R n k; omega)
    rw [e, self_mg hk] at h2
    cases h2
/-! it can be run -/
theorem hx_const {u m a b : Nat} (hab : a ≤ b) (h : ∀ s, a ≤ s → s < b → (hbit (P u s)).testBit m = false) : (hx P u b).testBit m = (hx P u a).testBit m := by
  induction hab with
  | refl => rfl
  | step hab ih =>
    rename_i b
    rw [hx_step, h b hab (by omega), ih fun s h1 h2 => h s h1 (by omega), Bool.xor_false]
theorem LE_VR (hV : VR L P n R) (h : LE P R n Q) : VR L P n Q := by
  have hP := LE_Pm hV.2.1 h
  refine ⟨hV.1, h.1, ?_⟩
  have key : ∀ i, i < n → goS L P (sd Q i) (Q i) = true := fun i hi => by
    obtain ⟨j, hj, p⟩ := hP.2.1 i hi
    have hg := vb_go hV.2.2 hj
    rw [goS_iff] at hg ⊢
    have e1 : sd Q i (Q i) = sd R j (R j) := p.2
    rw [e1, p.1]
    refine ⟨hg.1, fun h2 u hu hne => ?_⟩
    have hr := hg.2 h2 u hu hne
    have side : ∀ s i' j', i' < n → j' < n → pr Q R i' j' → R j' = u → wh R j' = s → ¬ (i' < i ↔ j' < j) → (hbit (P u s)).testBit (P (R j) (sd R j (R j)) % 4) = false := fun s i' j' hi' hj' p' e2 e3 hno => by
      have hcm : cm (P (R j) (sd R j (R j))) (P u s) = true := by
        cases hc : cm (P (R j) (sd R j (R j))) (P u s) with
        | true => rfl
        | false =>
          exfalso
          refine hno (hP.2.2 i i' j j' hi hi' hj hj' p p' ?_)
          rw [td_sym]
          unfold td cd
          have e4 : wh R j = sd R j (R j) := rfl
          rw [e2, e3, e4, hc]
          simp
      exact cm_lock hcm h2
    show (hx P u (dn Q u i)).testBit (P (R j) (sd R j (R j)) % 4) = false
    have hr : (hx P u (dn R u j)).testBit (P (R j) (sd R j (R j)) % 4) = false := hr
    rcases Nat.le_total (dn R u j) (dn Q u i) with hle | hle
    · rw [hx_const hle fun s h1 h3 => ?_]
      · exact hr
      · obtain ⟨i', k1, k2, k3⟩ := ix_ex i h3
        obtain ⟨j', m1, m2⟩ := hP.2.1 i' (by omega)
        refine side s i' j' (by omega) m1 m2 (m2.1.symm.trans k2) (m2.2.symm.trans k3) fun hiff => ?_
        have hlt := hiff.mp k1
        have e5 : R j' = u := m2.1.symm.trans k2
        have e6 : wh R j' = s := m2.2.symm.trans k3
        have h5 := dn_le (R := R) (t := u) (show j' + 1 ≤ j from hlt)
        have h6 : dn R u (j' + 1) = dn R u j' + 1 := by rw [dn, if_pos e5]
        have h7 : wh R j' = dn R u j' := by unfold wh; rw [e5]
        omega
    · rw [← hx_const hle fun s h1 h3 => ?_]
      · exact hr
      · obtain ⟨j', k1, k2, k3⟩ := ix_ex j h3
        obtain ⟨i', m1, m2⟩ := hP.1 j' (by omega)
        refine side s i' j' m1 (by omega) m2 k2 k3 fun hiff => ?_
        have hlt := hiff.mpr k1
        have e5 : Q i' = u := m2.1.trans k2
        have e6 : wh Q i' = s := m2.2.trans k3
        have h5 := dn_le (R := Q) (t := u) (show i' + 1 ≤ i from hlt)
        have h6 : dn Q u (i' + 1) = dn Q u i' + 1 := by rw [dn, if_pos e5]
        have h7 : wh Q i' = dn Q u i' := by unfold wh; rw [e5]
        omega
  have all : ∀ i, i ≤ n → vb L P Q i = true := by
    intro i
    induction i with
    | zero => intro _; rfl
    | succ i ih =>
      intro hi
      rw [vb, ih (by omega), key i (by omega)]
      rfl
  exact all n (Nat.le_refl _)
theorem LR_VR (hV : VR L P n R) : VR L P n (LR P R n) := LE_VR hV (LR_LE hV.2.1)
theorem LR_Pm (hV : VR L P n R) : Pm P (LR P R n) R n := LE_Pm hV.2.1 (LR_LE hV.2.1)
end EXT
