/-! A WAY TO A NEAREST DEADLOCK: class and reference. -/
section W8S
variable {L : Nat → Nat} {P : Nat → Nat → Nat}
theorem sh_skip {n : Nat} (h : dB7 L P n = false) : shN L P (n + 1) = shN L P n := by
  rw [shN, h]
  cases shN L P n <;> rfl
theorem sh_none {n : Nat} (hs : shN L P n = none) (h : dB7 L P n = true) : shN L P (n + 1) = some (len4 (d7 n)) := by
  rw [shN, hs, h]
  rfl
theorem sh_some {n a : Nat} (hs : shN L P n = some a) (h : dB7 L P n = true) : shN L P (n + 1) = if len4 (d7 n) < a then some (len4 (d7 n)) else some a := by
  rw [shN, hs, h]
  rfl
theorem v_shortest_lp (hW : WP L P) {w : Wd} (hX : SPX w L P) : ∀ (k c m : Nat), k + c = 4096 → PC m c → x_X5_shortestWay 5 [] [some (zr 5 0), some (zi (oI (shN L P m))), some (zi (nI c))] w = some (oI (shN L P 2401), w) := by
  intro k
  induction k with
  | zero =>
    intro c m hk hp
    have : c = 4096 := by omega
    subst this
    have := PC_end hp
    subst this
    rw [e_X5_shortestWay_5]
    simp (disch := omega) only [jl, jle]
    rw [if_pos (by omega)]
  | succ k ih =>
    intro c m hk hp
    have hc : c < 4096 := by omega
    have hd : f_X5_isDeadlock 0 (nI c) w = some (nI (if dB8 L P c = true then 1 else 0), w) := v_isDead8 hW hX hc
    rw [e_X5_shortestWay_5, hd]
    simp (disch := omega) only [jl, jle, joc, j01, nI_add]
    rw [if_neg (by omega)]
    rcases PC_step hW hp hc with ⟨hm, rfl, hp'⟩ | ⟨hz, hp'⟩
    · rw [dB_eN hW hm]
      have hi := ih (eN m + 1) (m + 1) (by omega) hp'
      have hl := len7_lt m
      cases hb : dB7 L P m with
      | false =>
        rw [sh_skip hb] at hi
        rw [if_pos rfl]
        exact hi
      | true =>
        rw [if_neg (by decide)]
        rw [v_stepsDone hc, eN_dig hm]
        cases hs : shN L P m with
        | none =>
          rw [sh_none hs hb] at hi
          rw [show oI none = Int32.ofInt (-6) from rfl, if_pos rfl, joc]
          exact hi
        | some a =>
          have ha := sh_lt m a hs
          rw [sh_some hs hb] at hi
          rw [show oI (some a) = nI a from rfl, if_neg (show ¬ nI a = Int32.ofInt (-6) by rw [jm6 (by omega)]; exact id), joc]
          simp (disch := omega) only [jle, joc]
          by_cases hlt : len4 (d7 m) < a
          · rw [if_pos hlt] at hi
            rw [if_neg (by omega), v_stepsDone hc, eN_dig hm, joc]
            exact hi
          · rw [if_neg hlt] at hi
            rw [if_pos (by omega)]
            exact hi
    · have hb : dB8 L P c = false := by unfold dB8; rw [hz]; rfl
      rw [hb, if_pos rfl]
      exact ih (c + 1) m (by omega) hp'
theorem v_shortest (hW : WP L P) {w : Wd} (hX : SPX w L P) : f_X5_shortestWay 0 w = some (oI (shN L P 2401), w) := by
  rw [e_X5_shortestWay]
  exact v_shortest_lp hW hX 4096 0 0 rfl PC_0
def oT (t : Nat) : Int32 := if t < 4 then nI t else Int32.ofInt (-6)
/-- marks of the class from a stand on -/
def LC (w : Wd) (L : Nat → Nat) (P : Nat → Nat → Nat) (c : Nat) : Prop := ∀ n, n < 2401 → c ≤ eN n → w.1 19 0 (eN n) = nI (if ldN L P n = true then 1 else 0)
theorem v_leading (hW : WP L P) {w : Wd} (hX : SPX w L P) {n : Nat} (hn : n < 2401) (hz : W7 L P n ≠ 0) (hC : LC w L P (eN n + 1)) : f_X5_leastLeading 0 (nI (eN n)) w = some (oT (ltN L P n), w) := by
  have hE := eN_lt40 hn
  have hgo := hX.2.2.2.1 (eN n) hE
  rw [gG, W_eN hW n hn, if_neg hz, eN_dig hn] at hgo
  have hg16 := msk_lt (goS L P (d7 n))
  have st : ∀ t, t < 4 → x_X5_leastLeading 2 [] [some (zr 5 0), some (zi (nI (eN n))), some (zi (nI t))] w = if lgN L P n t = true then some (nI t, w) else x_X5_leastLeading 2 [] [some (zr 5 0), some (zi (nI (eN n))), some (zi (nI (t + 1)))] w := fun t ht => by
    rw [e_X5_leastLeading_2]
    simp (disch := omega) only [jl, jle, jchk, jcl, hgo, v_isIn, msk_bit _ ht, joc, j01, nI_add, v_standAfter]
    rw [if_neg (by omega)]
    unfold lgN
    cases hb : goS L P (d7 n) t with
    | false =>
      have hb' : go7 L P n t = false := hb
      rw [hb', if_pos rfl]
      simp
    | true =>
      have hb' : go7 L P n t = true := hb
      obtain ⟨s1, s2, s3, s4⟩ := go7_st hW hn hz ht hb'
      have hg8 : 0 < g8 t := ds8.2.2.1 t ht
      have hE2 := eN_lt s1
      have hst : (eN n + 2 ^ (9 - 3 * t)) % 4096 = eN (n + g7 t) := by
        rw [s4]
        show (eN n + g8 t) % 4096 = _
        exact Nat.mod_eq_of_lt (by omega)
      have hmk := hC (n + g7 t) s1 (by omega)
      rw [hst, hb', if_neg (by decide)]
      simp (disch := omega) only [jchk, jcl, hmk, j01, Bool.true_and]
      cases ldN L P (n + g7 t) <;> simp
  rw [e_X5_leastLeading]
  simp only [jl]
  rw [st 0 (by decide), st 1 (by decide), st 2 (by decide), st 3 (by decide), e_X5_leastLeading_2]
  simp (disch := omega) only [jl, jle, Nat.reduceAdd, Nat.le_refl, ↓reduceIte]
  unfold ltN
  cases lgN L P n 0 <;> cases lgN L P n 1 <;> cases lgN L P n 2 <;> cases lgN L P n 3 <;> rfl
theorem v_leading_no (hW : WP L P) {w : Wd} (hX : SPX w L P) {c : Nat} (hc : c < 4096) (hz : W8 L P c = 0) : f_X5_leastLeading 0 (nI c) w = some (Int32.ofInt (-6), w) := by
  have hgo := hX.2.2.2.1 c hc
  rw [gG, if_pos hz] at hgo
  have st : ∀ t, t < 4 → x_X5_leastLeading 2 [] [some (zr 5 0), some (zi (nI c)), some (zi (nI t))] w = x_X5_leastLeading 2 [] [some (zr 5 0), some (zi (nI c)), some (zi (nI (t + 1)))] w := fun t ht => by
    rw [e_X5_leastLeading_2]
    simp (disch := omega) only [jl, jle, jchk, jcl, hgo, v_isIn, Nat.zero_testBit, joc, j01, nI_add, ↓reduceIte]
    rw [if_neg (by omega)]
  rw [e_X5_leastLeading]
  simp only [jl]
  rw [st 0 (by decide), st 1 (by decide), st 2 (by decide), st 3 (by decide), e_X5_leastLeading_2]
  simp (disch := omega) only [jl, jle, Nat.reduceAdd, Nat.le_refl, ↓reduceIte]
theorem jpred (c : Nat) : nI (c + 1) + Int32.ofInt (-1) = nI c := by
  rw [← nI_add, Int32.add_assoc, show nI 1 + Int32.ofInt (-1) = (0 : Int32) from by decide, Int32.add_zero]
def S19 : Nat → Nat → Bool := S1 19 0
theorem SPX_19 {w w' : Wd} (hf : Fr S19 w w') (hX : SPX w L P) : SPX w' L P := SPX_fr hf rfl rfl rfl rfl rfl (by rw [(hf 5 0 rfl).1]) hX
theorem PC_all (hW : WP L P) {c : Nat} (hc : c < 4096) : (∃ n, n < 2401 ∧ c = eN n ∧ W7 L P n ≠ 0) ∨ W8 L P c = 0 := by
  by_cases h : W8 L P c = 0
  · exact Or.inr h
  · obtain ⟨n, hn, e⟩ := W8_img hW hc h
    refine Or.inl ⟨n, hn, e.symm, fun hz => h ?_⟩
    rw [← e, W_eN hW n hn, hz]
theorem v_mark_lp (hW : WP L P) : ∀ (c : Nat) (w : Wd), c ≤ 4096 → SPX w L P → LC w L P c →
    ∃ w', x_X5_markWaysOf 4 [] [some (zr 5 0), some (zi (oI (shN L P 2401))), some (zi (nI c + Int32.ofInt (-1)))] w = some w' ∧ Fr S19 w w' ∧ LC w' L P 0 := by
  intro c
  induction c with
  | zero =>
    intro w hc hX hC
    refine ⟨w, ?_, Fr.rf, hC⟩
    rw [e_X5_markWaysOf_4, if_pos (by decide)]
  | succ c ih =>
    intro w hc hX hC
    have hc' : c < 4096 := by omega
    have hd : f_X5_isDeadlock 0 (nI c) w = some (nI (if dB8 L P c = true then 1 else 0), w) := v_isDead8 hW hX hc'
    have put : ∀ b : Bool, (∀ n, n < 2401 → eN n = c → ldN L P n = b) → ∃ w', x_X5_markWaysOf 4 [] [some (zr 5 0), some (zi (oI (shN L P 2401))), some (zi (nI c + Int32.ofInt (-1)))] (wI w 19 0 c (nI (if b = true then 1 else 0))) = some w' ∧ Fr S19 w w' ∧ LC w' L P 0 := fun b hb => by
      obtain ⟨w', h1, h2, h3⟩ := ih (wI w 19 0 c (nI (if b = true then 1 else 0))) (by omega) (SPX_19 (Fr.rf.wI (by decide)) hX) (fun n hn hle => by
        rw [jw1]
        by_cases e : eN n = c
        · rw [if_pos ⟨rfl, rfl, e⟩, hb n hn e]
        · rw [if_neg (fun z => e z.2.2)]
          exact hC n hn (by omega))
      exact ⟨w', h1, (Fr.rf.wI (by decide)).tr h2, h3⟩
    rw [jpred, e_X5_markWaysOf_4]
    simp (disch := omega) only [jlt0, ↓reduceIte]
    rcases PC_all hW hc' with ⟨n, hn, rfl, hz⟩ | hz
    · rw [v_leading hW hX hn hz (fun i hi hle => hC i hi hle), joc]
      have hln := ltN_ld hn hz
      by_cases h4 : ltN L P n < 4
      · have hp := put true (fun i hi e => by rw [eN_inj e, hln]; simp [h4])
        rw [show (oT (ltN L P n), w).1 = nI (ltN L P n) from if_pos h4, if_neg (show ¬ nI (ltN L P n) = Int32.ofInt (-6) by rw [jm6 (by omega)]; exact id)]
        simp (disch := omega) only [jl, jchk, jcl, jzb1]
        exact hp
      · rw [show (oT (ltN L P n), w).1 = Int32.ofInt (-6) from if_neg h4, if_pos rfl]
        dsimp only
        rw [hd, joc, dB_eN hW hn]
        have hbs : bsN L P n = (dB7 L P n && decide (shN L P 2401 = some (len4 (d7 n)))) := rfl
        have hl := len7_lt n
        simp (disch := omega) only [j01, v_stepsDone, eN_dig hn, joc, oI_eq (show len4 (d7 n) < 2147483648 by omega) (fun m h => sh_lt (L := L) (P := P) 2401 m h), jl, jchk, jcl, jzb0, jzb1]
        cases hb : dB7 L P n with
        | false =>
          rw [if_pos rfl]
          exact put false (fun i hi e => by rw [eN_inj e, hln, hbs, hb]; simp [h4])
        | true =>
          rw [if_neg (by decide)]
          by_cases hs : shN L P 2401 = some (len4 (d7 n))
          · rw [if_pos hs]
            exact put true (fun i hi e => by rw [eN_inj e, hln, hbs, hb]; simp [hs])
          · rw [if_neg hs]
            exact put false (fun i hi e => by rw [eN_inj e, hln, hbs, hb]; simp [h4, hs])
    · rw [v_leading_no hW hX hc' hz, joc, if_pos rfl]
      dsimp only
      rw [hd, joc, show dB8 L P c = false from by unfold dB8; rw [hz]; rfl, if_neg (by decide : ¬ false = true)]
      simp (disch := omega) only [jl, jchk, jcl, jzb0]
      rw [if_pos (by rfl)]
      exact put false (fun i hi e => by
        rw [ldN_eq hi, ← W_eN hW i hi, e, hz]
        rfl)
theorem v_mark (hW : WP L P) {w : Wd} (hX : SPX w L P) : ∃ w', f_X5_markWaysOf 0 (oI (shN L P 2401)) w = some w' ∧ Fr S19 w w' ∧ LC w' L P 0 := by
  obtain ⟨w', h1, h2, h3⟩ := v_mark_lp hW 4096 w (Nat.le_refl _) hX (fun n hn hle => by have := eN_lt40 hn; omega)
  refine ⟨w', ?_, h2, h3⟩
  rw [e_X5_markWaysOf, ← h1, show nI 4096 + Int32.ofInt (-1) = nI 4095 from jpred 4095]
  simp only [jl]
/-- a run of the class -/
def RR (w : Wd) (k n : Nat) (R : Nat → Nat) : Prop := w.1 3 k 1 = nI n ∧ ∀ i, i < n → w.1 13 k i = nI (R i)
def SRg (k : Nat) : Nat → Nat → Bool := S2 (S1 3 k) (S1 13 k)
theorem SRg_3 (k : Nat) : SRg k 3 k = true := by unfold SRg S2; rw [S1_self]; rfl
theorem SRg_13 (k : Nat) : SRg k 13 k = true := by unfold SRg S2; rw [S1_self, Bool.or_true]
theorem v_append {w : Wd} {k n x : Nat} {R : Nat → Nat} (hR : RR w k n R) (hn : n < 24) (hx : R n = x) : ∃ w', f_X3_append k (nI x) w = some w' ∧ Fr (SRg k) w w' ∧ RR w' k (n + 1) R := by
  refine ⟨wI (wI w 13 k n (nI x)) 3 k 1 (nI (n + 1)), ?_, (Fr.rf.wI (SRg_13 k)).wI (SRg_3 k), ?_, fun i hi => ?_⟩
  · rw [e_X3_append, hR.1]
    simp (disch := omega) only [jl, jle, jchk, jcl]
    rw [if_neg (by omega), jw1, if_neg (by omega), hR.1, nI_add]
  · rw [jw1, if_pos ⟨rfl, rfl, rfl⟩]
  · rw [jw1, if_neg (by omega), jw1]
    by_cases e : i = n
    · rw [if_pos ⟨rfl, rfl, e⟩, e, hx]
    · rw [if_neg (fun z => e z.2.2)]
      exact hR.2 i (by omega)
def SWy : Nat → Nat → Bool := S2 S19 (SRg 12)
theorem v_way_lp (hW : WP L P) {m : Nat} (hs : shN L P 2401 = some m) : ∀ (k i : Nat) (w : Wd), k + i = m → SPX w L P → LC w L P 0 → RR w 12 i (fun i => ltN L P (psN L P i)) →
    ∃ w', x_X5_leastShortestWay 21 [] [some (zr 5 0), some (zi (nI m)), some (zi (nI (eN (psN L P i)))), some (zi (nI i)), none] w = some ((3, 12), w') ∧ Fr (SRg 12) w w' ∧ RR w' 12 m (fun i => ltN L P (psN L P i)) := by
  have hm := sh_lt 2401 m hs
  intro k
  induction k with
  | zero =>
    intro i w hk hX hC hR
    have : i = m := by omega
    subst this
    refine ⟨w, ?_, Fr.rf, hR⟩
    rw [e_X5_leastShortestWay_21]
    simp (disch := omega) only [jle]
    rw [if_pos (by omega)]
  | succ k ih =>
    intro i w hk hX hC hR
    obtain ⟨p1, p2, p3, p4, p5⟩ := ps_all hW hs i (by omega)
    have hlt := p5 (by omega)
    have hE := eN_lt40 p1
    obtain ⟨g1, -⟩ := ltN_go hlt
    unfold lgN at g1
    rw [Bool.and_eq_true] at g1
    obtain ⟨s1, s2, s3, s4⟩ := go7_st hW p1 p2 hlt g1.1
    have hE2 := eN_lt s1
    have hst : (eN (psN L P i) + 2 ^ (9 - 3 * ltN L P (psN L P i))) % 4096 = eN (psN L P (i + 1)) := by
      rw [psN, s4]
      show (eN (psN L P i) + g8 (ltN L P (psN L P i))) % 4096 = _
      exact Nat.mod_eq_of_lt (by omega)
    obtain ⟨w1, a1, a2, a3⟩ := v_append (n := i) (x := ltN L P (psN L P i)) hR (by omega) rfl
    obtain ⟨w', h1, h2, h3⟩ := ih (i + 1) w1 (by omega) (SPX_fr a2 rfl rfl rfl rfl rfl (by rw [(a2 5 0 rfl).1]) hX) (fun n hn hle => by rw [(a2 19 0 rfl).1]; exact hC n hn hle) a3
    refine ⟨w', ?_, a2.tr h2, h3⟩
    rw [← h1, e_X5_leastShortestWay_21, v_leading hW hX p1 p2 (fun n hn hle => hC n hn (Nat.zero_le _))]
    simp (disch := omega) only [jle, joc, oT, if_pos hlt, jm6, ↓reduceIte, a1, v_standAfter, hst, jl, nI_add]
    rw [if_neg (by omega)]
theorem v_leastShortest (hW : WP L P) {w : Wd} (hX : SPX w L P) : ∃ w', f_X5_leastShortestWay 0 w = some ((3, 12), w') ∧ Fr SWy w w' ∧ RR w' 12 (match shN L P 2401 with | none => 0 | some m => m) (fun i => ltN L P (psN L P i)) := by
  have f1 : Fr (SRg 12) w (wI w 3 12 1 (nI 0)) := Fr.rf.wI (SRg_3 12)
  have hX1 : SPX (wI w 3 12 1 (nI 0)) L P := SPX_fr f1 rfl rfl rfl rfl rfl (by rw [(f1 5 0 rfl).1]) hX
  obtain ⟨w2, b1, b2, b3⟩ := v_mark hW hX1
  have hX2 := SPX_19 b2 hX1
  have hR2 : RR w2 12 0 (fun i => ltN L P (psN L P i)) := ⟨by rw [(b2 3 12 rfl).1, jw1, if_pos ⟨rfl, rfl, rfl⟩], fun i hi => by omega⟩
  have f12 : Fr SWy w w2 := (f1.mono fun t i h => S2_r h).tr (b2.mono fun t i h => S2_l h)
  have e0 : f_X5_leastShortestWay 0 w = x_X5_leastShortestWay 21 [] [some (zr 5 0), some (zi (oI (shN L P 2401))), some (zi (nI 0)), some (zi (nI 0)), none] w2 := by
    rw [e_X5_leastShortestWay, e_X3_clear]
    simp only [jl, joc, v_shortest hW hX1, b1]
  rw [e0]
  cases hs : shN L P 2401 with
  | none =>
    refine ⟨w2, ?_, f12, hR2⟩
    rw [e_X5_leastShortestWay_21]
    rw [if_pos (by decide)]
  | some m =>
    obtain ⟨w', h1, h2, h3⟩ := v_way_lp hW hs m 0 w2 rfl hX2 b3 hR2
    rw [show psN L P 0 = 0 from rfl, show eN 0 = 0 from rfl] at h1
    exact ⟨w', h1, f12.tr (h2.mono fun t i h => S2_r h), h3⟩
end W8S
