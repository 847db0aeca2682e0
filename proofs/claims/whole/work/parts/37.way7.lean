/-! A WAY TO A NEAREST DEADLOCK: the reference. -/
section W7S
variable {L : Nat → Nat} {P : Nat → Nat → Nat}
theorem u_nearest_lp (hW : WP L P) {w : Wd} (hX : MX w L P) : ∀ (k n : Nat), k + n = 2401 → x_X8_nearest 5 [] [some (zr 8 0), some (zi (oI (shN L P n))), some (zi (nI n)), none] w = some (oI (shN L P 2401), w) := by
  intro k
  induction k with
  | zero =>
    intro n hk
    have : n = 2401 := by omega
    subst this
    rw [e_X8_nearest_5]
    simp (disch := omega) only [jl, jle]
    rw [if_pos (by omega)]
  | succ k ih =>
    intro n hk
    have hn : n < 2401 := by omega
    have hs := W7_small (P := P) hW hn
    have hi := ih (n + 1) (by omega)
    have hl := len7_lt n
    have hno : dB7 L P n = false → x_X8_nearest 36 [zi (nI 0)] [some (zr 8 0), some (zi (oI (shN L P n))), some (zi (nI n)), none] w = some (oI (shN L P 2401), w) := fun hb => by
      rw [sh_skip hb] at hi
      rw [e_X8_nearest_36, if_pos (by rfl), ← hi]
      simp only [jl, nI_add]
    have hyes : dB7 L P n = true → x_X8_nearest 36 [zi (nI 1)] [some (zr 8 0), some (zi (oI (shN L P n))), some (zi (nI n)), none] w = some (oI (shN L P 2401), w) := fun hb => by
      rw [e_X8_nearest_36, if_neg (show ¬ nI 1 = (0 : Int32) by decide), u_length (by omega)]
      cases hs : shN L P n with
      | none =>
        rw [sh_none hs hb] at hi
        rw [show oI none = Int32.ofInt (-6) from rfl, if_pos rfl, joc, ← hi]
        simp only [jl, nI_add]
        rfl
      | some a =>
        have ha := sh_lt n a hs
        rw [sh_some hs hb] at hi
        rw [show oI (some a) = nI a from rfl, if_neg (show ¬ nI a = Int32.ofInt (-6) by rw [jm6 (by omega)]; exact id), joc]
        simp (disch := omega) only [jle, joc, jl, nI_add, u_length]
        by_cases hlt : len4 (d7 n) < a
        · rw [if_pos hlt] at hi
          rw [if_neg (by omega)]
          exact hi
        · rw [if_neg hlt] at hi
          rw [if_pos (by omega)]
          exact hi
    rw [e_X8_nearest_5]
    simp (disch := omega) only [jl, jlL, jle, jchk, jcl, hX.2.2 n hn, lcmpP]
    rw [if_neg (by omega)]
    by_cases hz : W7 L P n = 0
    · rw [if_pos hz]
      exact hno (by unfold dB7; rw [hz]; rfl)
    · rw [if_neg hz, MX_dead hW hX hn hz, joc]
      have hb : dB7 L P n = deadS L P (d7 n) := by unfold dB7; simp [hz]
      cases hd : deadS L P (d7 n) with
      | false =>
        rw [hd] at hb
        simp only [Bool.false_eq_true, ↓reduceIte]
        rw [if_pos (by rfl)]
        exact hno hb
      | true =>
        rw [hd] at hb
        simp only [↓reduceIte]
        rw [if_neg (by decide)]
        exact hyes hb
theorem u_nearest (hW : WP L P) {w : Wd} (hX : MX w L P) : f_X8_nearest 0 w = some (oI (shN L P 2401), w) := by
  rw [e_X8_nearest]
  exact u_nearest_lp hW hX 2401 0 rfl
def S36 : Nat → Nat → Bool := S1 36 0
theorem MX_fr {S : Nat → Nat → Bool} {w w' : Wd} (hf : Fr S w w') (h1 : S 30 0 = false) (h2 : S 32 0 = false) (h3 : S 33 0 = false) (hX : MX w L P) : MX w' L P :=
  ⟨hf.RQ h1 hX.1, HH_fr hf h2 hX.2.1, fun x hx => by rw [(hf 33 0 h3).2]; exact hX.2.2 x hx⟩
/-- marks of the reference from a stand on -/
def LM (w : Wd) (L : Nat → Nat) (P : Nat → Nat → Nat) (c : Nat) : Prop := ∀ n, n < 2401 → c ≤ n → w.1 36 0 n = nI (if ldN L P n = true then 1 else 0)
theorem u_lead_in (hW : WP L P) {s m p : Nat} (hs : s < 2401) (hz : W7 L P s ≠ 0) : ∀ (k t : Nat) (w : Wd), k + t = 4 → MX w L P → LM w L P (s + 1) → w.1 36 0 s = nI (if ldp L P s t = true then 1 else 0) →
    ∃ w', x_X8_wayToDeadlock 89 [] [some (zr 8 0), some (zi (nI p)), some (zi (nI m)), some (zi (nI s)), some (zi (nI t)), none] w = x_X8_wayToDeadlock 43 [] [some (zr 8 0), some (zi (nI p)), some (zi (nI m)), some (zi (nI s + Int32.ofInt (-1))), none, none] w' ∧ Fr S36 w w' ∧ LM w' L P s := by
  have hv := ds_reach ds7 hW s hs hz
  have hsm := W7_small (P := P) hW hs
  intro k
  induction k with
  | zero =>
    intro t w hk hX hM h36
    have : t = 4 := by omega
    subst this
    refine ⟨w, ?_, Fr.rf, fun n hn hle => ?_⟩
    · rw [e_X8_wayToDeadlock_89]
      simp (disch := omega) only [jl, jle]
      rw [if_pos (by omega)]
    · by_cases e : n = s
      · rw [e, h36, ldN_eq hs]
        simp [hz]
      · exact hM n hn (by omega)
  | succ k ih =>
    intro t w hk hX hM h36
    have ht : t < 4 := by omega
    have hcan : f_X8_canGo 0 (nI s) (nI t) w = some (nI (if go7 L P s t = true then 1 else 0), w) := u_canGo hX.1 hW hX.2.1 (n := s) (by omega) ht hv 0
    have put : ∀ b : Bool, ldp L P s (t + 1) = b → ∃ w', x_X8_wayToDeadlock 89 [] [some (zr 8 0), some (zi (nI p)), some (zi (nI m)), some (zi (nI s)), some (zi (nI (t + 1))), none] (wI w 36 0 s (nI (if b = true then 1 else 0))) = x_X8_wayToDeadlock 43 [] [some (zr 8 0), some (zi (nI p)), some (zi (nI m)), some (zi (nI s + Int32.ofInt (-1))), none, none] w' ∧ Fr S36 w w' ∧ LM w' L P s := fun b hb => by
      have f1 : Fr S36 w (wI w 36 0 s (nI (if b = true then 1 else 0))) := Fr.rf.wI (by decide)
      obtain ⟨w', h1, h2, h3⟩ := ih (t + 1) (wI w 36 0 s (nI (if b = true then 1 else 0))) (by omega) (MX_fr f1 rfl rfl rfl hX) (fun n hn hle => by
        rw [jw1, if_neg (by omega)]
        exact hM n hn hle) (by rw [jw1, if_pos ⟨rfl, rfl, rfl⟩, hb])
      exact ⟨w', h1, f1.tr h2, h3⟩
    have e1 : ldp L P s (t + 1) = (ldp L P s t || lgN L P s t) := rfl
    rw [e_X8_wayToDeadlock_89]
    simp (disch := omega) only [jl, jlL, jle, jchk, jcl, hX.2.2 s hs, lcmpP, hz, ↓reduceIte, h36, j01, nI_add, hcan, joc, u_figure ht, jzb0, jzb1]
    rw [if_neg (by omega)]
    cases hl : ldp L P s t with
    | true =>
      rw [if_neg (by decide)]
      exact put true (by rw [e1, hl]; rfl)
    | false =>
      rw [if_pos rfl]
      cases hg : go7 L P s t with
      | false =>
        rw [if_pos rfl]
        exact put false (by rw [e1, hl]; unfold lgN; rw [hg]; rfl)
      | true =>
        rw [if_neg (by decide)]
        obtain ⟨s1, s2, s3, s4⟩ := go7_st hW hs hz ht hg
        have hgp := (g7_pos t).1
        have hmk := hM (s + g7 t) s1 (by omega)
        simp (disch := omega) only [jchk, jcl, hmk, j01]
        cases hld : ldN L P (s + g7 t) with
        | false =>
          rw [if_pos rfl]
          exact put false (by rw [e1, hl]; unfold lgN; rw [hg, hld]; rfl)
        | true =>
          rw [if_neg (by decide)]
          exact put true (by rw [e1, hl]; unfold lgN; rw [hg, hld]; rfl)
theorem u_lead_lp (hW : WP L P) {m p : Nat} (hsh : shN L P 2401 = some m) : ∀ (c : Nat) (w : Wd), c ≤ 2401 → MX w L P → LM w L P c →
    ∃ w', x_X8_wayToDeadlock 43 [] [some (zr 8 0), some (zi (nI p)), some (zi (nI m)), some (zi (nI c + Int32.ofInt (-1))), none, none] w = x_X8_wayToDeadlock 172 [] [some (zr 8 0), some (zi (nI p)), none, some (zi (nI 0)), some (zi (Int32.ofInt (-6))), some (zi (nI 0))] w' ∧ Fr S36 w w' ∧ LM w' L P 0 := by
  have hm24 := sh_lt 2401 m hsh
  intro c
  induction c with
  | zero =>
    intro w hc hX hM
    refine ⟨w, ?_, Fr.rf, hM⟩
    rw [e_X8_wayToDeadlock_43, if_pos (by decide)]
    simp only [jl]
  | succ c ih =>
    intro w hc hX hM
    have hc' : c < 2401 := by omega
    have hl := len7_lt c
    have hsm := W7_small (P := P) hW hc'
    have f0 : ∀ y, Fr S36 w (wI w 36 0 c y) := fun y => Fr.rf.wI (by decide)
    have hM' : ∀ y, LM (wI w 36 0 c y) L P (c + 1) := fun y n hn hle => by
      rw [jw1, if_neg (by omega)]
      exact hM n hn hle
    have put : W7 L P c ≠ 0 → ∀ b : Bool, bsN L P c = b → ∃ w', x_X8_wayToDeadlock 89 [] [some (zr 8 0), some (zi (nI p)), some (zi (nI m)), some (zi (nI c)), some (zi (nI 0)), none] (wI w 36 0 c (nI (if b = true then 1 else 0))) = x_X8_wayToDeadlock 172 [] [some (zr 8 0), some (zi (nI p)), none, some (zi (nI 0)), some (zi (Int32.ofInt (-6))), some (zi (nI 0))] w' ∧ Fr S36 w w' ∧ LM w' L P 0 := fun hz b hb => by
      obtain ⟨w1, a1, a2, a3⟩ := u_lead_in hW (m := m) (p := p) hc' hz 4 0 _ rfl (MX_fr (f0 (nI (if b = true then 1 else 0))) rfl rfl rfl hX) (hM' _) (by
        rw [jw1, if_pos ⟨rfl, rfl, rfl⟩]
        show _ = nI (if bsN L P c = true then 1 else 0)
        rw [hb])
      obtain ⟨w', h1, h2, h3⟩ := ih w1 (by omega) (MX_fr ((f0 _).tr a2) rfl rfl rfl hX) a3
      exact ⟨w', a1.trans h1, ((f0 _).tr a2).tr h2, h3⟩
    rw [jpred, e_X8_wayToDeadlock_43]
    simp (disch := omega) only [jlt0, ↓reduceIte, jl, jlL, jchk, jcl, hX.2.2 c hc', lcmpP, jzb0, jzb1, u_length, joc, jeq]
    by_cases hz : W7 L P c = 0
    · rw [if_pos hz, e_X8_wayToDeadlock_89]
      have e33 : (wI w 36 0 c (nI 0)).2 33 0 c = lN (W7 L P c) := by rw [jw2]; exact hX.2.2 c hc'
      simp (disch := omega) only [jl, jlL, jle, jchk, jcl, e33, lcmpP, hz, ↓reduceIte]
      rw [if_neg (by omega)]
      obtain ⟨w', h1, h2, h3⟩ := ih (wI w 36 0 c (nI 0)) (by omega) (MX_fr (f0 _) rfl rfl rfl hX) (fun n hn hle => by
        by_cases e : n = c
        · rw [e, jw1, if_pos ⟨rfl, rfl, rfl⟩, ldN_eq hc', hz]
          rfl
        · exact hM' _ n hn (by omega))
      exact ⟨w', h1, (f0 _).tr h2, h3⟩
    · rw [if_neg hz]
      have hb7 : dB7 L P c = deadS L P (d7 c) := by unfold dB7; simp [hz]
      have hbs : bsN L P c = (deadS L P (d7 c) && decide (m = len4 (d7 c))) := by
        unfold bsN
        rw [hb7, hsh]
        simp
      by_cases hlm : len4 (d7 c) = m
      · rw [if_pos hlm, MX_dead hW hX hc' hz, joc]
        simp only [j01]
        cases hd : deadS L P (d7 c) with
        | false =>
          rw [if_pos rfl]
          exact put hz false (by rw [hbs, hd]; rfl)
        | true =>
          rw [if_neg (by decide)]
          exact put hz true (by rw [hbs, hd]; simp [hlm])
      · rw [if_neg hlm]
        exact put hz false (by rw [hbs]; simp; exact fun _ h => hlm h.symm)
theorem u_seek (hW : WP L P) {w : Wd} (hX : MX w L P) (hM : LM w L P 0) {n p i : Nat} (hn : n < 2401) (hz : W7 L P n ≠ 0) (hi : i < 2147483647) (h4 : ltN L P n < 4) : ∀ (k t : Nat), k + t = ltN L P n →
    x_X8_wayToDeadlock 181 [] [some (zr 8 0), some (zi (nI p)), none, some (zi (nI n)), some (zi (nI t)), some (zi (nI i))] w = x_X8_wayToDeadlock 172 [] [some (zr 8 0), some (zi (nI p)), none, some (zi (nI (n + g7 (ltN L P n)))), some (zi (nI (ltN L P n))), some (zi (nI (i + 1)))] w := by
  have hv := ds_reach ds7 hW n hn hz
  obtain ⟨g1, g2⟩ := ltN_go h4
  intro k
  induction k with
  | zero =>
    intro t hk
    have : t = ltN L P n := by omega
    subst this
    have hg : go7 L P n (ltN L P n) = true ∧ ldN L P (n + g7 (ltN L P n)) = true := by
      unfold lgN at g1
      exact (Bool.and_eq_true _ _).mp g1
    have hcan : f_X8_canGo 0 (nI n) (nI (ltN L P n)) w = some (nI 1, w) := by
      have := u_canGo hX.1 hW hX.2.1 (n := n) (by omega) h4 hv 0
      have hg' : goS L P (d7 n) (ltN L P n) = true := hg.1
      rw [hg'] at this
      exact this
    obtain ⟨s1, -, -, -⟩ := go7_st hW hn hz h4 hg.1
    have hmk := hM _ s1 (Nat.zero_le _)
    rw [hg.2] at hmk
    rw [e_X8_wayToDeadlock_181, hcan, joc]
    simp (disch := omega) only [jeq0, Nat.reduceEqDiff, ↓reduceIte, u_figure h4, joc, nI_add, jchk, jcl, hmk, jl]
  | succ k ih =>
    intro t hk
    have ht : t < 4 := by omega
    have hno := g2 t (by omega)
    have hcan : f_X8_canGo 0 (nI n) (nI t) w = some (nI (if go7 L P n t = true then 1 else 0), w) := u_canGo hX.1 hW hX.2.1 (n := n) (by omega) ht hv 0
    rw [← ih (t + 1) (by omega), e_X8_wayToDeadlock_181, hcan, joc]
    simp (disch := omega) only [j01, u_figure ht, joc, nI_add, jl]
    cases hg : go7 L P n t with
    | false => rw [if_pos rfl]
    | true =>
      rw [if_neg (by decide)]
      obtain ⟨s1, -, -, -⟩ := go7_st hW hn hz ht hg
      have hmk := hM _ s1 (Nat.zero_le _)
      unfold lgN at hno
      rw [hg, Bool.true_and] at hno
      rw [hno] at hmk
      simp (disch := omega) only [jchk, jcl, hmk, jeq0, Bool.false_eq_true, ↓reduceIte]
def pv (L : Nat → Nat) (P : Nat → Nat → Nat) : Nat → Int32
  | 0 => Int32.ofInt (-6)
  | i + 1 => nI (ltN L P (psN L P i))
theorem u_path (hW : WP L P) {w : Wd} (hX : MX w L P) (hM : LM w L P 0) {m p : Nat} (hsh : shN L P 2401 = some m) (hp : p < m) : ∀ (k i : Nat), k + i = p + 1 →
    x_X8_wayToDeadlock 172 [] [some (zr 8 0), some (zi (nI p)), none, some (zi (nI (psN L P i))), some (zi (pv L P i)), some (zi (nI i))] w = some (nI (ltN L P (psN L P p)), w) := by
  have hm24 := sh_lt 2401 m hsh
  intro k
  induction k with
  | zero =>
    intro i hk
    have : i = p + 1 := by omega
    subst this
    rw [e_X8_wayToDeadlock_172]
    simp (disch := omega) only [jlt]
    rw [if_pos (by omega)]
    rfl
  | succ k ih =>
    intro i hk
    obtain ⟨p1, p2, p3, p4, p5⟩ := ps_all hW hsh i (by omega)
    have hs := u_seek hW hX hM (p := p) (i := i) p1 p2 (by omega) (p5 (by omega)) (ltN L P (psN L P i)) 0 rfl
    rw [← ih (i + 1) (by omega), e_X8_wayToDeadlock_172]
    simp (disch := omega) only [jlt, jl]
    rw [if_neg (by omega), hs]
    rfl
def SMw : Nat → Nat → Bool := S2 SMx S36
theorem ofInt_lt0 {x : Int32} (h : x < 0) : ¬ Int32.ofInt (-1) ≤ x ∨ x = Int32.ofInt (-1) := by
  by_cases h1 : Int32.ofInt (-1) ≤ x
  · right
    apply Int32.toInt_inj.mp
    rw [Int32.le_iff_toInt_le] at h1
    rw [Int32.lt_iff_toInt_lt] at h
    rw [show (Int32.ofInt (-1)).toInt = -1 from by decide] at h1 ⊢
    rw [show (0 : Int32).toInt = 0 from by decide] at h
    omega
  · exact Or.inl h1
theorem q_way (hW : WP L P) {w w1 : Wd} (hl : f_X5_lookAt 0 0 w = some w1) (hX : SPX w1 L P) (x : Int32) : ∃ v w2, f_X7_wayToDeadlock 0 x w = some (v, w2) ∧ (w2 = w ∨ Fr SWy w1 w2) ∧ ∀ wm, RQ wm 0 0 L P → ∃ wm', f_X8_wayToDeadlock 0 x wm = some (v, wm') ∧ Fr SMw wm wm' := by
  by_cases hx1 : Int32.ofInt (-1) ≤ x
  · obtain ⟨w2, a1, a2, a3⟩ := v_leastShortest hW hX
    have cls : ∀ v, (if x < 0 then (oC (zif (Nat.beq 3 3) (f_X3_length 12 w2)) fun q3 => (if q3.1 = 0 then (some ((Int32.ofInt (-6)), q3.2)) else (oC (zif (Nat.beq 3 3) (f_X3_length 12 q3.2)) fun q4 => (some (q4.1, q4.2))))) else (oC (zif (Nat.beq 3 3) (f_X3_threadAt 12 x w2)) fun q5 => (some (q5.1, q5.2)))) = some (v, w2) → f_X7_wayToDeadlock 0 x w = some (v, w2) := fun v h => by
      rw [e_X7_wayToDeadlock, if_pos hx1, hl, joc, a1, joc]
      exact h
    have zt : ∀ {α : Type} (f : Option α), zif (Nat.beq 3 3) f = f := fun f => rfl
    simp only [zt, e_X3_length, e_X3_threadAt, joc] at cls
    have mdl : ∀ wm, RQ wm 0 0 L P → ∃ wm', Fr SMx wm wm' ∧ MX wm' L P ∧ f_X8_wayToDeadlock 0 x wm = (if x = Int32.ofInt (-1) then some (oI (shN L P 2401), wm') else if x < oI (shN L P 2401) then x_X8_wayToDeadlock 43 [] [some (zr 8 0), some (zi x), some (zi (oI (shN L P 2401))), some (zi (nI 2400)), none, none] wm' else some (Int32.ofInt (-6), wm')) := fun wm hR => by
      obtain ⟨wm', h1, h2, h3⟩ := u_laysWays hW hR
      refine ⟨wm', h2, h3, ?_⟩
      rw [e_X8_wayToDeadlock, if_pos hx1, h1, joc, u_nearest hW h3, joc]
      by_cases e : x = Int32.ofInt (-1)
      · simp only [if_pos e]
      · simp only [if_neg e, jl]
    rcases jnat x with hx | ⟨n, hn, rfl⟩
    · have hxe : x = Int32.ofInt (-1) := (ofInt_lt0 hx).resolve_left (fun h => h hx1)
      refine ⟨oI (shN L P 2401), w2, cls _ ?_, Or.inr a2, fun wm hR => ?_⟩
      · rw [if_pos hx, a3.1]
        cases hs : shN L P 2401 with
        | none => rfl
        | some m =>
          have hp := sh_pos hW hs
          have h24 := sh_lt 2401 m hs
          dsimp only
          rw [if_neg (by rw [jeq0 (by omega)]; omega)]
          rfl
      · obtain ⟨wm', h1, h2, h3⟩ := mdl wm hR
        exact ⟨wm', by rw [h3, if_pos hxe], h1.mono fun t i h => S2_l h⟩
    · have hne : ¬ nI n = Int32.ofInt (-1) := by rw [jm1 hn]; exact id
      cases hs : shN L P 2401 with
      | none =>
        rw [hs] at a3 mdl
        refine ⟨Int32.ofInt (-6), w2, cls _ ?_, Or.inr a2, fun wm hR => ?_⟩
        · rw [a3.1]
          simp (disch := omega) only [jlt0, ↓reduceIte, jle]
          rw [if_pos (Nat.zero_le _), joc]
        · obtain ⟨wm', h1, h2, h3⟩ := mdl wm hR
          refine ⟨wm', ?_, h1.mono fun t i h => S2_l h⟩
          rw [h3, if_neg hne, if_neg]
          intro hlt
          have : nI n < (0 : Int32) := Int32.lt_trans hlt (by decide)
          exact nI_pos hn this
      | some m =>
        have hm24 := sh_lt 2401 m hs
        rw [hs] at a3 mdl
        by_cases hnm : n < m
        · refine ⟨nI (ltN L P (psN L P n)), w2, cls _ ?_, Or.inr a2, fun wm hR => ?_⟩
          · rw [a3.1]
            dsimp only
            simp (disch := omega) only [jlt0, ↓reduceIte, jle, jchk, jcl, a3.2 n hnm]
            rw [if_neg (by omega), joc]
          · obtain ⟨wm', h1, h2, h3⟩ := mdl wm hR
            obtain ⟨wm2, b1, b2, b3⟩ := u_lead_lp hW (p := n) hs 2401 wm' (Nat.le_refl _) h2 (fun i hi hle => by omega)
            refine ⟨wm2, ?_, (h1.mono fun t i h => S2_l h).tr (b2.mono fun t i h => S2_r h)⟩
            rw [h3, if_neg hne, show oI (some m) = nI m from rfl, if_pos (by rw [jlt hn (by omega)]; exact hnm)]
            rw [show nI 2401 + Int32.ofInt (-1) = nI 2400 from jpred 2400] at b1
            rw [b1]
            exact u_path hW (MX_fr b2 rfl rfl rfl h2) b3 hs hnm (n + 1) 0 rfl
        · refine ⟨Int32.ofInt (-6), w2, cls _ ?_, Or.inr a2, fun wm hR => ?_⟩
          · rw [a3.1]
            dsimp only
            simp (disch := omega) only [jlt0, ↓reduceIte, jle]
            rw [if_pos (by omega), joc]
          · obtain ⟨wm', h1, h2, h3⟩ := mdl wm hR
            refine ⟨wm', ?_, h1.mono fun t i h => S2_l h⟩
            rw [h3, if_neg hne, show oI (some m) = nI m from rfl, if_neg (by rw [jlt hn (by omega)]; exact hnm)]
  · refine ⟨Int32.ofInt (-2), w, ?_, Or.inl rfl, fun wm hR => ⟨wm, ?_, Fr.rf⟩⟩
    · rw [e_X7_wayToDeadlock, if_neg hx1]
    · rw [e_X8_wayToDeadlock, if_neg hx1]
end W7S
