/-! THE LEAST RUN, chains, and how many orders: the reference. -/
section L7
variable {L : Nat → Nat} {P : Nat → Nat → Nat} {R : Nat → Nat} {n : Nat}
/-- a run in the reference's rows, with its steps -/
def RU (w : Wd) (L : Nat → Nat) (P : Nat → Nat → Nat) (n : Nat) (R : Nat → Nat) : Prop := RQ w 0 0 L P ∧ RM w n R ∧ WM w n R
theorem RU_fr {S : Nat → Nat → Bool} {w w' : Wd} (hf : Fr S w w') (h1 : S 30 0 = false) (h2 : S 8 0 = false) (h3 : S 37 0 = false) (h4 : S 38 0 = false) (hU : RU w L P n R) : RU w' L P n R :=
  ⟨hf.RQ h1 hU.1, ⟨by rw [(hf 8 0 h2).1]; exact hU.2.1.1, fun i hi => by rw [(hf 37 0 h3).1]; exact hU.2.1.2 i hi⟩, fun i hi => by rw [(hf 38 0 h4).1]; exact hU.2.2 i hi⟩
theorem u_isTied (hW : WP L P) (hV : VR L P n R) {w : Wd} (hU : RU w L P n R) {i j : Nat} (hi : i < n) (hj : j < n) : f_X8_isTied 0 (nI i) (nI j) w = some (nI (if td P R i j = true then 1 else 0), w) := by
  have hn := hV.1
  have ri := hU.2.1.2 i hi
  have rj := hU.2.1.2 j hj
  have wi := hU.2.2 i hi
  have wj := hU.2.2 j hj
  have h4i := hV.2.1 i hi
  have h4j := hV.2.1 j hj
  rw [e_X8_isTied]
  simp (disch := omega) only [jl, jchk, jcl, ri, rj, wi, wj, jeq, jzb1, jzb0, u_step hU.1 hW h4i (VR_wh hV hi), u_step hU.1 hW h4j (VR_wh hV hj), joc, u_commute (show P (R i) (wh R i) < 16 from VR_cd hW hV hi) (show P (R j) (wh R j) < 16 from VR_cd hW hV hj), j01]
  unfold td cd
  by_cases e : R i = R j
  · rw [if_pos e]; simp [e]
  · rw [if_neg e]
    cases cm (P (R i) (wh R i)) (P (R j) (wh R j)) <;> simp [e]
def fr (P : Nat → Nat → Nat) (R : Nat → Nat) (s : Nat → Nat) (k j : Nat) : Bool := !decide (wh R k < s (R k)) && alT P R s k j
theorem alT_wh {s : Nat → Nat} {k : Nat} (h : alT P R s k k = true) : wh R k ≤ s (R k) := by
  by_cases hle : wh R k ≤ s (R k)
  · exact hle
  · exfalso
    obtain ⟨j, h1, h2, h3⟩ := ix_ex (R := R) (t := R k) (s := s (R k)) k (by
      show s (R k) < wh R k
      omega)
    have ht : td P R j k = true := by unfold td; simp [h2]
    have := (alT_iff k).mp h j h1 ht
    rw [h2, h3] at this
    omega
theorem fr_cn {s : Nat → Nat} {k : Nat} : fr P R s k k = cnB P R s k := by
  unfold fr cnB
  cases h : alT P R s k k with
  | false => simp
  | true =>
    have := alT_wh h
    by_cases e : wh R k = s (R k)
    · simp [e]
    · have : wh R k < s (R k) := by omega
      simp [e, this]
/-- what is taken -/
def TK (w : Wd) (n : Nat) (R : Nat → Nat) (s : Nat → Nat) : Prop := ∀ j, j < n → w.1 40 0 j = nI (if decide (wh R j < s (R j)) = true then 1 else 0)
theorem u_free_lp (hW : WP L P) (hV : VR L P n R) {w : Wd} (hU : RU w L P n R) {s : Nat → Nat} (hT : TK w n R s) {k : Nat} (hk : k < n) : ∀ (m j : Nat), m + j = k →
    x_X8_isFree 17 [] [some (zr 8 0), some (zi (nI k)), some (zi (nI (if fr P R s k j = true then 1 else 0))), some (zi (nI j))] w = some (nI (if fr P R s k k = true then 1 else 0), w) := by
  have hn := hV.1
  have zb01 : ∀ (b : Bool) (f : Option (Int32 × Wd)), zb (nI (if b = true then 1 else 0)) f = f := fun b f => by
    cases b
    · exact jzb0
    · exact jzb1
  intro m
  induction m with
  | zero =>
    intro j hj
    rw [e_X8_isFree_17]
    simp (disch := omega) only [jle, zb01]
    rw [if_pos (by omega), show j = k by omega]
  | succ m ih =>
    intro j hj
    have e1 : fr P R s k (j + 1) = (fr P R s k j && (!td P R j k || decide (wh R j < s (R j)))) := by
      unfold fr
      rw [alT, Bool.and_assoc]
    rw [e_X8_isFree_17]
    simp (disch := omega) only [jl, jle, zb01, j01, jchk, jcl, hT j (by omega), u_isTied hW hV hU (show j < n by omega) hk, joc, nI_add]
    rw [if_neg (by omega)]
    cases hf : fr P R s k j with
    | false =>
      rw [if_pos rfl]
      have : fr P R s k k = false := by
        cases h : fr P R s k k with
        | false => rfl
        | true =>
          have : fr P R s k j = true := by
            unfold fr at h ⊢
            rw [Bool.and_eq_true] at h ⊢
            exact ⟨h.1, (alT_iff j).mpr fun i hi => (alT_iff k).mp h.2 i (by omega)⟩
          rw [this] at hf
          cases hf
      rw [this]
    | true =>
      rw [if_neg (by decide)]
      rw [hf, Bool.true_and] at e1
      have hi := ih (j + 1) (by omega)
      rw [e1] at hi
      cases hd : decide (wh R j < s (R j)) with
      | true =>
        rw [if_neg (by decide)]
        rw [hd, Bool.or_true] at hi
        exact hi
      | false =>
        rw [if_pos rfl]
        rw [hd, Bool.or_false] at hi
        cases ht : td P R j k with
        | false =>
          rw [ht] at hi
          rw [if_pos rfl]
          exact hi
        | true =>
          rw [ht] at hi
          rw [if_neg (by decide)]
          exact hi
theorem u_isFree (hW : WP L P) (hV : VR L P n R) {w : Wd} (hU : RU w L P n R) {s : Nat → Nat} (hT : TK w n R s) {k : Nat} (hk : k < n) : f_X8_isFree 0 (nI k) w = some (nI (if cnB P R s k = true then 1 else 0), w) := by
  have hn := hV.1
  have h := u_free_lp hW hV hU hT hk k 0 rfl
  rw [fr_cn] at h
  rw [← h, e_X8_isFree]
  simp (disch := omega) only [jl, jchk, jcl, hT k hk, j01]
  unfold fr
  rw [alT, Bool.and_true]
  cases decide (wh R k < s (R k)) <;> rfl
/-- the best of those seen -/
def BT (P : Nat → Nat → Nat) (R : Nat → Nat) (s : Nat → Nat) (k : Nat) (x : Int32) : Prop := (x = Int32.ofInt (-6) ∧ ∀ j, j < k → cnB P R s j = false) ∨ ∃ b, x = nI b ∧ b < k ∧ cnB P R s b = true ∧ ∀ j, j < k → cnB P R s j = true → R b ≤ R j
theorem u_best_lp (hW : WP L P) (hV : VR L P n R) {w : Wd} (hU : RU w L P n R) {s : Nat → Nat} (hT : TK w n R s) {i : Nat} : ∀ (m k : Nat) (x : Int32), m + k = n → BT P R s k x →
    ∃ x', x_X8_laysLeast 38 [] [some (zr 8 0), some (zi (nI i)), some (zi x), some (zi (nI k))] w = x_X8_laysLeast 38 [] [some (zr 8 0), some (zi (nI i)), some (zi x'), some (zi (nI n))] w ∧ BT P R s n x' := by
  have hn := hV.1
  intro m
  induction m with
  | zero =>
    intro k x hk hB
    have : k = n := by omega
    subst this
    exact ⟨x, rfl, hB⟩
  | succ m ih =>
    intro k x hk hB
    have hkn : k < n := by omega
    rw [e_X8_laysLeast_38, hU.2.1.1]
    simp (disch := omega) only [jle, u_isFree hW hV hU hT hkn, joc, j01, jl, nI_add]
    rw [if_neg (by omega)]
    cases hc : cnB P R s k with
    | false =>
      rw [if_pos rfl]
      refine ih (k + 1) x (by omega) ?_
      rcases hB with ⟨h1, h2⟩ | ⟨b, h1, h2, h3, h4⟩
      · exact Or.inl ⟨h1, fun j hj => by
          by_cases e : j = k
          · rw [e]; exact hc
          · exact h2 j (by omega)⟩
      · exact Or.inr ⟨b, h1, by omega, h3, fun j hj hcj => by
          by_cases e : j = k
          · rw [e, hc] at hcj; cases hcj
          · exact h4 j (by omega) hcj⟩
    | true =>
      rw [if_neg (by decide)]
      rcases hB with ⟨h1, h2⟩ | ⟨b, h1, h2, h3, h4⟩
      · rw [if_pos h1]
        exact ih (k + 1) _ (by omega) (Or.inr ⟨k, rfl, by omega, hc, fun j hj hcj => by
          by_cases e : j = k
          · rw [e]; exact Nat.le_refl _
          · rw [h2 j (by omega)] at hcj; cases hcj⟩)
      · subst h1
        have rb := hU.2.1.2 b (by omega)
        have rk := hU.2.1.2 k hkn
        have h4b := hV.2.1 b (by omega)
        have h4k := hV.2.1 k hkn
        rw [if_neg (show ¬ nI b = Int32.ofInt (-6) by rw [jm6 (by omega)]; exact id)]
        simp (disch := omega) only [jchk, jcl, rb, rk, jle]
        by_cases hle : R b ≤ R k
        · rw [if_pos hle]
          exact ih (k + 1) _ (by omega) (Or.inr ⟨b, rfl, by omega, h3, fun j hj hcj => by
            by_cases e : j = k
            · rw [e]; exact hle
            · exact h4 j (by omega) hcj⟩)
        · rw [if_neg hle]
          exact ih (k + 1) _ (by omega) (Or.inr ⟨k, rfl, by omega, hc, fun j hj hcj => by
            by_cases e : j = k
            · rw [e]; exact Nat.le_refl _
            · have := h4 j (by omega) hcj; omega⟩)
def S3940 : Nat → Nat → Bool := S2 (S1 39 0) (S1 40 0)
theorem u_rounds_lp (hW : WP L P) (hV : VR L P n R) : ∀ (m i : Nat) (w : Wd), m + i = n → RU w L P n R → TK w n R (lpS P R n i) → (∀ j, j < i → w.1 39 0 j = nI (LR P R n j)) →
    ∃ w', x_X8_laysLeast 25 [] [some (zr 8 0), some (zi (nI i)), none, none] w = some w' ∧ Fr S3940 w w' ∧ ∀ j, j < n → w'.1 39 0 j = nI (LR P R n j) := by
  have hn := hV.1
  intro m
  induction m with
  | zero =>
    intro i w hm hU hT h39
    refine ⟨w, ?_, Fr.rf, fun j hj => h39 j (by omega)⟩
    rw [e_X8_laysLeast_25, hU.2.1.1]
    simp (disch := omega) only [jle]
    rw [if_pos (by omega)]
  | succ m ih =>
    intro i w hm hU hT h39
    have hi : i < n := by omega
    obtain ⟨x', h1, hB⟩ := u_best_lp hW hV hU hT (i := i) n 0 (Int32.ofInt (-6)) rfl (Or.inl ⟨rfl, fun j hj => by omega⟩)
    have hlt := (lp_all (P := P) hV.2.1 i (by omega)).2.2 hi
    have hlt' : ltR P R n (lpS P R n i) < 4 := hlt
    obtain ⟨g1, g2⟩ := ltR_mg (P := P) (R := R) (n := n) hlt'
    obtain ⟨k0, k1, k2, k3⟩ := (mgB_iff n).mp g1
    rcases hB with ⟨_, hno⟩ | ⟨b, rfl, b1, b2, b3⟩
    · rw [hno k0 k1] at k3; cases k3
    · have hRb : R b = ltR P R n (lpS P R n i) := by
        have h5 := b3 k0 k1 k3
        rcases Nat.lt_trichotomy (R b) (ltR P R n (lpS P R n i)) with q | q | q
        · have := g2 _ q
          rw [(mgB_iff n).mpr ⟨b, b1, rfl, b2⟩] at this
          cases this
        · exact q
        · omega
      have rb := hU.2.1.2 b b1
      have hwb := cnB_wh b2
      have f1 : Fr S3940 w (wI (wI w 40 0 b (nI 1)) 39 0 i (nI (LR P R n i))) := (Fr.rf.wI (by decide)).wI (by decide)
      obtain ⟨w', c1, c2, c3⟩ := ih (i + 1) _ (by omega) (RU_fr f1 rfl rfl rfl rfl hU) (fun j hj => by
        rw [jw1, if_neg (by omega), jw1]
        by_cases e : j = b
        · rw [if_pos ⟨rfl, rfl, e⟩, e, lpS, if_pos hRb.symm, hwb]
          simp
        · rw [if_neg (fun z => e z.2.2), hT j hj, lpS]
          by_cases e2 : ltR P R n (lpS P R n i) = R j
          · rw [if_pos e2]
            have : wh R j ≠ lpS P R n i (R j) := fun h => e (wh_inj (R := R) (by rw [hRb, e2]) (by rw [h, hwb, hRb, e2]))
            have h6 : (wh R j < lpS P R n i (R j) + 1) = (wh R j < lpS P R n i (R j)) := propext (by omega)
            simp only [h6]
          · rw [if_neg e2, Nat.add_zero]) (fun j hj => by
        rw [jw1]
        by_cases e : j = i
        · rw [if_pos ⟨rfl, rfl, e⟩, e]
        · rw [if_neg (fun z => e z.2.2), jw1, if_neg (by omega)]
          exact h39 j (by omega))
      refine ⟨w', ?_, f1.tr c2, c3⟩
      have e37 : (wI w 40 0 b (nI 1)).1 37 0 b = nI (LR P R n i) := by
        rw [jw1, if_neg (by omega), rb, hRb]
        rfl
      rw [← c1, e_X8_laysLeast_25, hU.2.1.1]
      simp (disch := omega) only [jle, jl]
      rw [if_neg (by omega), h1, e_X8_laysLeast_38, hU.2.1.1]
      simp (disch := omega) only [jle, Nat.le_refl, ↓reduceIte, jl, jchk, jcl, jzb1, e37, nI_add]
theorem u_clear_lp {n : Nat} (hn : n ≤ 24) : ∀ (m k : Nat) (w : Wd), m + k = n → w.1 8 0 18 = nI n → (∀ j, j < k → w.1 40 0 j = nI 0) →
    ∃ w', x_X8_laysLeast 2 [] [some (zr 8 0), some (zi (nI k)), none, none] w = x_X8_laysLeast 25 [] [some (zr 8 0), some (zi (nI 0)), none, none] w' ∧ Fr S3940 w w' ∧ ∀ j, j < n → w'.1 40 0 j = nI 0 := by
  intro m
  induction m with
  | zero =>
    intro k w hm h18 h40
    refine ⟨w, ?_, Fr.rf, fun j hj => h40 j (by omega)⟩
    rw [e_X8_laysLeast_2, h18]
    simp (disch := omega) only [jle, jl]
    rw [if_pos (by omega)]
  | succ m ih =>
    intro k w hm h18 h40
    obtain ⟨w', h1, h2, h3⟩ := ih (k + 1) (wI w 40 0 k (nI 0)) (by omega) (by rw [jw1, if_neg (by omega)]; exact h18) (fun j hj => by
      rw [jw1]
      by_cases e : j = k
      · rw [if_pos ⟨rfl, rfl, e⟩]
      · rw [if_neg (fun z => e z.2.2)]
        exact h40 j (by omega))
    refine ⟨w', ?_, (Fr.rf.wI (by decide)).tr h2, h3⟩
    rw [← h1, e_X8_laysLeast_2, h18]
    simp (disch := omega) only [jle, jl, jchk, jcl, jzb0, nI_add]
    rw [if_neg (by omega)]
theorem u_laysLeast (hW : WP L P) (hV : VR L P n R) {w : Wd} (hU : RU w L P n R) : ∃ w', f_X8_laysLeast 0 w = some w' ∧ Fr S3940 w w' ∧ ∀ j, j < n → w'.1 39 0 j = nI (LR P R n j) := by
  obtain ⟨w1, a1, a2, a3⟩ := u_clear_lp hV.1 n 0 w rfl hU.2.1.1 (fun j hj => by omega)
  obtain ⟨w', h1, h2, h3⟩ := u_rounds_lp hW hV n 0 w1 rfl (RU_fr a2 rfl rfl rfl rfl hU) (fun j hj => by
    rw [a3 j hj]
    show nI 0 = nI (if decide (wh R j < 0) = true then 1 else 0)
    rw [if_neg (by simp)]) (fun j hj => by omega)
  refine ⟨w', ?_, a2.tr h2, h3⟩
  rw [← h1, ← a1, e_X8_laysLeast]
  simp only [jl]
/-! chains -/
def S39 : Nat → Nat → Bool := S1 39 0
theorem u_chain_in (hW : WP L P) (hV : VR L P n R) {k a : Nat} (hk : k < n) (ha : a ≤ 25) (hmx : a = mxA (ch P R) k) : ∀ (m j : Nat) (w : Wd), m + j = k → RU w L P n R → (∀ i, i < k → w.1 39 0 i = nI (ch P R i)) → w.1 39 0 k = nI (mxT P R (ch P R) k j + 1) →
    ∃ w', x_X8_chain 25 [] [some (zr 8 0), some (zi (nI a)), some (zi (nI k)), some (zi (nI j))] w = x_X8_chain 8 [] [some (zr 8 0), some (zi (nI (mxA (ch P R) (k + 1)))), some (zi (nI (k + 1))), none] w' ∧ Fr S39 w w' ∧ (∀ i, i < k + 1 → w'.1 39 0 i = nI (ch P R i)) := by
  have hn := hV.1
  intro m
  induction m with
  | zero =>
    intro j w hm hU h39 hkk
    have hjk : j = k := by omega
    rw [hjk, ← ch_eq] at hkk
    have hcl := ch_le_self (P := P) (R := R) k
    refine ⟨w, ?_, Fr.rf, fun i hi => ?_⟩
    · have e : mxA (ch P R) (k + 1) = if mxA (ch P R) k < ch P R k then ch P R k else mxA (ch P R) k := rfl
      rw [e_X8_chain_25]
      simp (disch := omega) only [jle, jl, jchk, jcl, hkk, nI_add]
      rw [if_pos (by omega), e, ← hmx]
      by_cases hlt : a < ch P R k
      · rw [if_neg (by omega), if_pos hlt]
      · rw [if_pos (by omega), if_neg hlt]
    · by_cases e : i = k
      · rw [e]; exact hkk
      · exact h39 i (by omega)
  | succ m ih =>
    intro j w hm hU h39 hkk
    have hj : j < k := by omega
    have hcj := ch_le_self (P := P) (R := R) j
    have hmj : mxT P R (ch P R) k j ≤ 25 := by
      rcases mxT_in (P := P) (R := R) (f := ch P R) (k := k) j with h | ⟨i, h1, h2, h3⟩
      · omega
      · have := ch_le_self (P := P) (R := R) i
        omega
    have e : mxT P R (ch P R) k (j + 1) = if (td P R j k && decide (mxT P R (ch P R) k j < ch P R j)) = true then ch P R j else mxT P R (ch P R) k j := rfl
    have put : ∃ w', x_X8_chain 25 [] [some (zr 8 0), some (zi (nI a)), some (zi (nI k)), some (zi (nI (j + 1)))] (wI w 39 0 k (nI (mxT P R (ch P R) k (j + 1) + 1))) = x_X8_chain 8 [] [some (zr 8 0), some (zi (nI (mxA (ch P R) (k + 1)))), some (zi (nI (k + 1))), none] w' ∧ Fr S39 w w' ∧ (∀ i, i < k + 1 → w'.1 39 0 i = nI (ch P R i)) := by
      have f1 : Fr S39 w (wI w 39 0 k (nI (mxT P R (ch P R) k (j + 1) + 1))) := Fr.rf.wI (by decide)
      obtain ⟨w', h1, h2, h3⟩ := ih (j + 1) _ (by omega) (RU_fr f1 rfl rfl rfl rfl hU) (fun i hi => by
        rw [jw1, if_neg (by omega)]
        exact h39 i hi) (by rw [jw1, if_pos ⟨rfl, rfl, rfl⟩])
      exact ⟨w', h1, f1.tr h2, h3⟩
    rw [e] at put
    rw [e_X8_chain_25]
    simp (disch := omega) only [jle, jl, u_isTied hW hV hU (show j < n by omega) hk, joc, j01, jchk, jcl, hkk, h39 j hj, nI_add]
    rw [if_neg (by omega)]
    cases ht : td P R j k with
    | false =>
      rw [ht] at put
      rw [if_pos rfl]
      exact put
    | true =>
      rw [ht, Bool.true_and] at put
      rw [if_neg (by decide)]
      by_cases hlt : mxT P R (ch P R) k j < ch P R j
      · rw [if_pos (by simp [hlt])] at put
        rw [if_neg (by omega)]
        exact put
      · rw [if_neg (by simp [hlt])] at put
        rw [if_pos (by omega)]
        exact put
theorem u_chain_lp (hW : WP L P) (hV : VR L P n R) : ∀ (m k : Nat) (w : Wd), m + k = n → RU w L P n R → (∀ i, i < k → w.1 39 0 i = nI (ch P R i)) →
    ∃ w', x_X8_chain 8 [] [some (zr 8 0), some (zi (nI (mxA (ch P R) k))), some (zi (nI k)), none] w = some (nI (mxA (ch P R) n), w') ∧ Fr S39 w w' := by
  have hn := hV.1
  intro m
  induction m with
  | zero =>
    intro k w hm hU h39
    have : k = n := by omega
    subst this
    refine ⟨w, ?_, Fr.rf⟩
    rw [e_X8_chain_8, hU.2.1.1]
    simp (disch := omega) only [jle, Nat.le_refl, ↓reduceIte]
  | succ m ih =>
    intro k w hm hU h39
    have hk : k < n := by omega
    have f1 : Fr S39 w (wI w 39 0 k (nI 1)) := Fr.rf.wI (by decide)
    obtain ⟨w1, a1, a2, a3⟩ := u_chain_in hW hV hk (a := mxA (ch P R) k) (mxA_le k fun i hi => by
      have := ch_le_self (P := P) (R := R) i
      omega) rfl k 0 (wI w 39 0 k (nI 1)) rfl (RU_fr f1 rfl rfl rfl rfl hU) (fun i hi => by
      rw [jw1, if_neg (by omega)]
      exact h39 i hi) (by rw [jw1, if_pos ⟨rfl, rfl, rfl⟩]; rfl)
    obtain ⟨w', h1, h2⟩ := ih (k + 1) w1 (by omega) (RU_fr (f1.tr a2) rfl rfl rfl rfl hU) a3
    refine ⟨w', ?_, (f1.tr a2).tr h2⟩
    rw [← h1, ← a1, e_X8_chain_8, hU.2.1.1]
    simp (disch := omega) only [jle, jl, jchk, jcl]
    rw [if_neg (by omega)]
end L7
