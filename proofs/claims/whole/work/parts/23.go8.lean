/-! Who can go, in the reference. -/
theorem u_heldBut_st {w : Wd} {n t a : Nat} (hn : n < 2147483648) (ht : t < 4) (x : Int32) (k : Nat) {b : Nat} (hb : w.1 32 0 (7 * t + d7 n t) = nI b) :
    x_X8_heldBut 5 [] [some (zr 8 k), some (zi (nI n)), some (zi x), some (zi (nI a)), some (zi (nI t))] w = x_X8_heldBut 5 [] [some (zr 8 k), some (zi (nI n)), some (zi x), some (zi (nI (a ||| (if nI t = x then 0 else b)))), some (zi (nI (t + 1)))] w := by
  have hd := d7_lt n t
  rw [e_X8_heldBut_5]
  simp (disch := omega) only [jl, jle, nI_add, jor, u_done, joc, jmul, jchk, jcl, hb]
  rw [if_neg (by omega)]
  by_cases h : nI t = x
  · rw [if_pos h, if_pos h]
  · rw [if_neg h, if_neg h]
theorem u_heldBut {w : Wd} {L : Nat → Nat} {P : Nat → Nat → Nat} (hH : HH w L P) {n : Nat} (hn : n < 2147483648) (hv : ∀ u, u < 4 → d7 n u ≤ L u) (x : Int32) (k : Nat) :
    f_X8_heldBut k (nI n) x w = some (nI (or4 fun u => if nI u = x then 0 else hx P u (d7 n u)), w) := by
  rw [e_X8_heldBut]
  simp only [jl]
  rw [u_heldBut_st hn (by decide) x k (hH 0 (by decide) _ (hv 0 (by decide))), u_heldBut_st hn (by decide) x k (hH 1 (by decide) _ (hv 1 (by decide))), u_heldBut_st hn (by decide) x k (hH 2 (by decide) _ (hv 2 (by decide))), u_heldBut_st hn (by decide) x k (hH 3 (by decide) _ (hv 3 (by decide))), e_X8_heldBut_5]
  simp (disch := omega) only [jl, jle, Nat.reduceLeDiff, Nat.reduceAdd, ↓reduceIte, Nat.zero_or]
  rfl
theorem u_heldBut_wst {w : Wd} {n t : Nat} (hn : n < 2147483648) (ht : t < 4) (x a : Int32) (k : Nat) :
    ∃ b, x_X8_heldBut 5 [] [some (zr 8 k), some (zi (nI n)), some (zi x), some (zi a), some (zi (nI t))] w = x_X8_heldBut 5 [] [some (zr 8 k), some (zi (nI n)), some (zi x), some (zi b), some (zi (nI (t + 1)))] w := by
  have hd := d7_lt n t
  rw [e_X8_heldBut_5]
  simp (disch := omega) only [jl, jle, nI_add, u_done, joc, jmul, jchk, jcl]
  rw [if_neg (by omega)]
  by_cases h : nI t = x
  · rw [if_pos h]; exact ⟨_, rfl⟩
  · rw [if_neg h]; exact ⟨_, rfl⟩
theorem u_heldBut_w {w : Wd} {n : Nat} (hn : n < 2147483648) (x : Int32) (k : Nat) : ∃ v, f_X8_heldBut k (nI n) x w = some (v, w) := by
  rw [e_X8_heldBut]
  simp only [jl]
  obtain ⟨b0, h0⟩ := u_heldBut_wst (w := w) hn (t := 0) (by decide) x (nI 0) k
  obtain ⟨b1, h1⟩ := u_heldBut_wst (w := w) hn (t := 1) (by decide) x b0 k
  obtain ⟨b2, h2⟩ := u_heldBut_wst (w := w) hn (t := 2) (by decide) x b1 k
  obtain ⟨b3, h3⟩ := u_heldBut_wst (w := w) hn (t := 3) (by decide) x b2 k
  rw [h0, h1, h2, h3, e_X8_heldBut_5]
  simp (disch := omega) only [jl, jle, Nat.reduceLeDiff, Nat.reduceAdd, ↓reduceIte]
  exact ⟨_, rfl⟩
theorem or4_lt {f : Nat → Nat} (h : ∀ u, f u < 16) : or4 f < 16 := Nat.or_lt_two_pow (n := 4) (Nat.or_lt_two_pow (Nat.or_lt_two_pow (h 0) (h 1)) (h 2)) (h 3)
theorem nI_inj {a b : Nat} (ha : a < 2147483648) (hb : b < 2147483648) (h : nI a = nI b) : a = b := (nI_eq ha hb).mp h
theorem u_canGo {w : Wd} {L : Nat → Nat} {P : Nat → Nat → Nat} (hR : RQ w 0 0 L P) (hW : WP L P) (hH : HH w L P) {n t : Nat} (hn : n < 2147483648) (ht : t < 4) (hv : ∀ u, u < 4 → d7 n u ≤ L u) (k : Nat) :
    f_X8_canGo k (nI n) (nI t) w = some (nI (if goS L P (d7 n) t then 1 else 0), w) := by
  have hd := d7_lt n t
  rw [e_X8_canGo, u_hasNext hR hW hn ht, joc]
  unfold goS
  by_cases h : d7 n t < L t
  · have hP := (hW t ht).2 _ h
    have e : (or4 fun u => if nI u = nI t then 0 else hx P u (d7 n u)) = or4 fun u => if u = t then 0 else hx P u (d7 n u) := by
      have key : ∀ u, u < 4 → (if nI u = nI t then 0 else hx P u (d7 n u)) = if u = t then 0 else hx P u (d7 n u) := fun u hu => by
        by_cases e : u = t
        · rw [if_pos e, if_pos (by rw [e])]
        · rw [if_neg e, if_neg (fun z => e (nI_inj (by omega) (by omega) z))]
      simp only [or4]
      rw [key 0 (by decide), key 1 (by decide), key 2 (by decide), key 3 (by decide)]
    have h16 : (or4 fun u => if u = t then 0 else hx P u (d7 n u)) < 16 := or4_lt fun u => by
      split
      · decide
      · exact hx_lt P u _
    generalize hg : (or4 fun u => if u = t then 0 else hx P u (d7 n u)) = g at h16 e ⊢
    have hm : P t (d7 n t) % 4 < 4 := Nat.mod_lt _ (by decide)
    simp (disch := omega) only [jl, if_pos h, jeq0, Nat.reduceEqDiff, ↓reduceIte, u_done, joc, u_step hR hW ht h, jdiv, jeq, u_heldBut hH hn hv, e, jmul, jsub, jmod, jshr, jand, jzb0, jzb1, Nat.and_one_is_mod]
    rw [Nat.testBit_eq_decide_div_mod_eq]
    by_cases h2 : P t (d7 n t) / 4 = 2
    · rw [if_pos h2]
      by_cases h3 : g / 2 ^ (P t (d7 n t) % 4) % 2 = 0
      · rw [if_pos h3]; simp [h, h2, h3]
      · have h4 : g / 2 ^ (P t (d7 n t) % 4) % 2 = 1 := by omega
        rw [if_neg h3]; simp [h, h2, h4]
    · rw [if_neg h2]; simp [h, h2]
  · simp (disch := omega) only [jl, if_neg h, jeq0, ↓reduceIte, jzb0]
    simp [h]
theorem u_canGo_w {w : Wd} {L : Nat → Nat} {P : Nat → Nat → Nat} (hR : RQ w 0 0 L P) (hW : WP L P) {n t : Nat} (hn : n < 2147483648) (ht : t < 4) (k : Nat) :
    ∃ γ : Bool, f_X8_canGo k (nI n) (nI t) w = some (nI (if γ then 1 else 0), w) := by
  have hd := d7_lt n t
  rw [e_X8_canGo, u_hasNext hR hW hn ht, joc]
  by_cases h : d7 n t < L t
  · have hP := (hW t ht).2 _ h
    obtain ⟨v, hv⟩ := u_heldBut_w (w := w) hn (nI t) k
    simp (disch := omega) only [jl, if_pos h, jeq0, Nat.reduceEqDiff, ↓reduceIte, u_done, joc, u_step hR hW ht h, jdiv, jeq, hv, jmul, jsub, jmod, jzb0, jzb1]
    split
    · split
      · exact ⟨true, rfl⟩
      · exact ⟨false, rfl⟩
    · exact ⟨true, rfl⟩
  · simp (disch := omega) only [jl, if_neg h, jeq0, ↓reduceIte, jzb0]
    exact ⟨false, rfl⟩
theorem j01 (b : Bool) : (nI (if b = true then 1 else 0) = (0 : Int32)) = (b = false) := by
  cases b
  · exact eq_true rfl |>.trans (by simp)
  · rw [jeq0 (by decide)]; simp
theorem u_isEnd {w : Wd} {n : Nat} (k : Nat) (γ : Nat → Bool) (h : ∀ t, t < 4 → f_X8_canGo k (nI n) (nI t) w = some (nI (if γ t then 1 else 0), w)) :
    f_X8_isEnd k (nI n) w = some (nI (if !γ 0 && !γ 1 && !γ 2 && !γ 3 then 1 else 0), w) := by
  rw [e_X8_isEnd]
  simp only [jl, h 0 (by decide), h 1 (by decide), h 2 (by decide), h 3 (by decide), joc, j01, jzb0, jzb1]
  cases γ 0 <;> cases γ 1 <;> cases γ 2 <;> cases γ 3 <;> rfl
theorem u_isDeadlock {w : Wd} {L : Nat → Nat} {P : Nat → Nat → Nat} (hR : RQ w 0 0 L P) (hW : WP L P) {n : Nat} (hn : n < 2147483648) (k : Nat) (γ : Bool) (h : f_X8_isEnd k (nI n) w = some (nI (if γ then 1 else 0), w)) :
    f_X8_isDeadlock k (nI n) w = some (nI (if γ && nxS L (d7 n) then 1 else 0), w) := by
  rw [e_X8_isDeadlock, h, joc]
  have e : ∀ t, t < 4 → f_X8_hasNext k (nI n) (nI t) w = some (nI (if decide (d7 n t < L t) = true then 1 else 0), w) := fun t ht => by
    rw [u_hasNext hR hW hn ht]
    simp
  simp only [jl, e 0 (by decide), e 1 (by decide), e 2 (by decide), e 3 (by decide), joc, j01, jzb0, jzb1, nxS]
  cases γ <;> by_cases h0 : d7 n 0 < L 0 <;> by_cases h1 : d7 n 1 < L 1 <;> by_cases h2 : d7 n 2 < L 2 <;> by_cases h3 : d7 n 3 < L 3 <;> simp [h0, h1, h2, h3]
theorem u_isEnd_s {w : Wd} {L : Nat → Nat} {P : Nat → Nat → Nat} (hR : RQ w 0 0 L P) (hW : WP L P) (hH : HH w L P) {n : Nat} (hn : n < 2147483648) (hv : ∀ u, u < 4 → d7 n u ≤ L u) (k : Nat) :
    f_X8_isEnd k (nI n) w = some (nI (if endS L P (d7 n) then 1 else 0), w) :=
  u_isEnd k (goS L P (d7 n)) fun t ht => u_canGo hR hW hH hn ht hv k
theorem u_isDead_s {w : Wd} {L : Nat → Nat} {P : Nat → Nat → Nat} (hR : RQ w 0 0 L P) (hW : WP L P) (hH : HH w L P) {n : Nat} (hn : n < 2147483648) (hv : ∀ u, u < 4 → d7 n u ≤ L u) (k : Nat) :
    f_X8_isDeadlock k (nI n) w = some (nI (if deadS L P (d7 n) then 1 else 0), w) :=
  u_isDeadlock hR hW hn k (endS L P (d7 n)) (u_isEnd_s hR hW hH hn hv k)
theorem u_isEnd_w {w : Wd} {L : Nat → Nat} {P : Nat → Nat → Nat} (hR : RQ w 0 0 L P) (hW : WP L P) {n : Nat} (hn : n < 2147483648) (k : Nat) :
    ∃ γ : Bool, f_X8_isEnd k (nI n) w = some (nI (if γ then 1 else 0), w) := by
  obtain ⟨a, ha⟩ := u_canGo_w hR hW hn (t := 0) (by decide) k
  obtain ⟨b, hb⟩ := u_canGo_w hR hW hn (t := 1) (by decide) k
  obtain ⟨c, hc⟩ := u_canGo_w hR hW hn (t := 2) (by decide) k
  obtain ⟨d, hd⟩ := u_canGo_w hR hW hn (t := 3) (by decide) k
  refine ⟨_, u_isEnd k (fun t => if t = 0 then a else if t = 1 then b else if t = 2 then c else d) fun t ht => ?_⟩
  rcases (show t = 0 ∨ t = 1 ∨ t = 2 ∨ t = 3 by omega) with rfl | rfl | rfl | rfl
  · exact ha
  · exact hb
  · exact hc
  · exact hd
theorem u_isDead_w {w : Wd} {L : Nat → Nat} {P : Nat → Nat → Nat} (hR : RQ w 0 0 L P) (hW : WP L P) {n : Nat} (hn : n < 2147483648) (k : Nat) :
    ∃ γ : Bool, f_X8_isDeadlock k (nI n) w = some (nI (if γ then 1 else 0), w) := by
  obtain ⟨a, ha⟩ := u_isEnd_w hR hW hn k
  exact ⟨_, u_isDeadlock hR hW hn k a ha⟩
