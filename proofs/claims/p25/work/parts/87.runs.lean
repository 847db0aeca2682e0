/-! QUESTIONS about the kept run. -/
section KR
variable {g : Gst}
theorem OK_run {α : Type} {f : Wd → Option (α × Wd)} {v : α} (hG : GI g) {S' : Nat → Nat → Bool} (hS' : sub S' SQ) (h5 : S' 5 0 = false ∧ S' 11 10 = false ∧ S' 12 10 = false ∧ S' 18 0 = false ∧ S' 17 1 = false ∧ S' 14 1 = false)
    (h : ∀ w, RP w 0 g.2.1.1 g.2.1.2.1 → RR w 0 g.2.1.2.2.1 g.2.1.2.2.2 → ∃ w', f w = some (v, w') ∧ Fr S' w w') : OK f g v g := fun w hC => by
  obtain ⟨w', b1, b2⟩ := h w hC.1.2.1.1 hC.1.2.1.2
  exact ⟨w', b1, (b2.sub hS').sub sub_SQ, ⟨CJ_q (b2.sub hS') hC.1, CS_fr b2 h5.1 h5.2.1 h5.2.2.1 h5.2.2.2.1 h5.2.2.2.2.1 h5.2.2.2.2.2 hC.2⟩⟩
theorem k_chain (hG : GI g) : OK (f_X7_chain 0) g (nI (mxA (ch g.2.1.2.1 g.2.1.2.2.2) g.2.1.2.2.1)) g := OK_run hG (S' := SO) sub_SO ⟨rfl, rfl, rfl, rfl, rfl, rfl⟩ fun w h1 h2 => by
  obtain ⟨w1, a1, a2, a3⟩ := v_lookR hG.2.1.1 hG.2.1.2.2.2 h1 h2
  refine ⟨w1, ?_, a2⟩
  rw [e_X7_chain, a1, joc, e_X4_longestChain, joc, a3.2.2.2.1]
theorem k_alikeRuns (hG : GI g) : OK (f_X7_alikeRuns 0) g (lN (wy g.2.1.2.1 g.2.1.2.2.2 g.2.1.2.2.1)) g := OK_run hG (S' := S2 SO S170) (sub_S2 sub_SO (sub_S1 rfl)) ⟨rfl, rfl, rfl, rfl, rfl, rfl⟩ fun w h1 h2 => by
  obtain ⟨w1, a1, a2, a3⟩ := v_lookR hG.2.1.1 hG.2.1.2.2.2 h1 h2
  obtain ⟨w2, b1, b2⟩ := v_linear hG.2.1.1 hG.2.1.2.2.2 a3
  refine ⟨w2, ?_, (a2.mono fun t i h => S2_l h).tr (b2.mono fun t i h => S2_r h)⟩
  rw [e_X7_alikeRuns, a1, joc, b1, joc]
  rfl
theorem k_least (hG : GI g) {p : Nat} (hp : p < 2147483648) : OK (f_X7_least 0 (nI p)) g (if p < g.2.1.2.2.1 then nI (LR g.2.1.2.1 g.2.1.2.2.2 g.2.1.2.2.1 p) else Int32.ofInt (-6)) g := OK_run hG (S' := S2 SO (SRg 10)) (sub_S2 sub_SO (sub_S2 (sub_S1 rfl) (sub_S1 rfl))) ⟨rfl, rfl, rfl, rfl, rfl, rfl⟩ fun w h1 h2 => by
  obtain ⟨hW, hE, hN, hV⟩ := hG.2.1
  have hn := hV.1
  obtain ⟨w1, a1, a2, a3⟩ := v_lookR hW hV h1 h2
  obtain ⟨w2, b1, b2, b3⟩ := v_writeLeast hW hV (k := 10) a3
  refine ⟨w2, ?_, (a2.mono fun t i h => S2_l h).tr (b2.mono fun t i h => S2_r h)⟩
  rw [e_X7_least]
  simp (disch := omega) only [jge0, ↓reduceIte, a1, b1, joc]
  by_cases hlt : p < g.2.1.2.2.1
  · rw [RR_at b3 hn hlt, joc, if_pos hlt]
  · rw [e_X3_threadAt, b3.1]
    simp (disch := omega) only [jlt0, ↓reduceIte, jle]
    rw [if_pos (by omega), joc, if_neg hlt]
theorem k_least_neg : OK (f_X7_least 0 (Int32.ofInt (-1))) g (Int32.ofInt (-2)) g := OK_same fun w _ => by
  rw [e_X7_least, if_neg (by decide)]
theorem k_lastW (hG : GI g) {p q : Nat} (hp : p < 4) (hq : q < 2) : OK (f_X7_lastWrite 0 (nI p) (nI q)) g (if q = 0 then lwT g.2.1.2.2.2 (lw g.2.1.2.1 g.2.1.2.2.2 p g.2.1.2.2.1) else lwS g.2.1.2.2.2 (lw g.2.1.2.1 g.2.1.2.2.2 p g.2.1.2.2.1)) g := OK_run hG (S' := SO) sub_SO ⟨rfl, rfl, rfl, rfl, rfl, rfl⟩ fun w h1 h2 => by
  refine ⟨w, ?_, Fr.rf⟩
  have h := v_lw_lp hG.2.1.1 hG.2.1.2.2.2 h1 h2 (v := p) (q := q) (by omega) (by omega) g.2.1.2.2.1 0 rfl
  rw [e_X7_lastWrite, v_isName (by omega), joc, if_pos hp, if_neg (show ¬ nI 1 = (0 : Int32) by decide), ← h]
  simp (disch := omega) only [jl, v_codeOf, joc, jeq0, jeq, Nat.mul_one]
  rcases (show q = 0 ∨ q = 1 by omega) with rfl | rfl
  · rw [if_pos rfl]; rfl
  · rw [if_neg (by decide), if_pos rfl]; rfl
theorem k_lastW4 (y : Int32) : OK (f_X7_lastWrite 0 (nI 4) y) g (Int32.ofInt (-1)) g := OK_same fun w _ => by
  rw [e_X7_lastWrite, v_isName (by decide), joc, if_neg (show ¬ 4 < 4 by decide), if_pos (by rfl)]
theorem k_lastW2 : OK (f_X7_lastWrite 0 (nI 0) (nI 2)) g (Int32.ofInt (-2)) g := OK_same fun w _ => by
  rw [e_X7_lastWrite, v_isName (by decide), joc, if_pos (show 0 < 4 by decide), if_neg (show ¬ nI 1 = (0 : Int32) by decide), if_neg (by decide), if_neg (by decide)]
/-! texts -/
def yFin (y : Int64) (n : Nat) : Nat := if n = 0 then 0 else if 8 ≤ n then n else if lg_cmp (shl y (nI n)) (lN 0) = 0 then n else 0
def yF (y : Int64) : Nat → Nat → Nat
  | 0, n => n
  | m + 1, n => if bt y n = 0 then yFin y n else if bt y n < 33 then 0 else if bt y n ≤ 126 then yF y m (n + 1) else 0
def yN (y : Int64) : Nat := yF y 8 0
theorem v_chars (y : Int64) (w : Wd) : ∀ (m n : Nat), m + n = 8 → x_X1_charactersIn 2 [] [some (zl y), none, some (zi (nI n))] w = some (nI (yF y m n), w) := by
  have fin : ∀ n, n ≤ 8 → x_X1_charactersIn 44 [] [some (zl y), none, some (zi (nI n))] w = some (nI (yFin y n), w) := fun n hn => by
    rw [e_X1_charactersIn_44]
    have e : (y.toUInt64 >>> (((Int32.ofInt 8) * nI n).toInt64.toUInt64 &&& Int64.toUInt64 63)).toInt64 = shl y (nI n) := rfl
    rw [e]
    simp (disch := omega) only [jl, jlL, jle, jeq0, nI_add]
    unfold yFin
    by_cases h0 : n = 0
    · rw [if_neg (by omega), if_pos h0, h0]
      split <;> rfl
    · rw [if_neg h0]
      by_cases h8 : 8 ≤ n
      · rw [if_pos h8, if_pos h8]
      · rw [if_neg h8, if_neg h8]
        by_cases hz : lg_cmp (shl y (nI n)) (lN 0) = 0
        · rw [if_pos hz, if_pos hz]
        · rw [if_neg hz, if_neg hz]
  intro m
  induction m with
  | zero =>
    intro n hn
    rw [e_X1_charactersIn_2]
    simp (disch := omega) only [jl, jle]
    rw [if_pos (by omega), fin n (by omega)]
    unfold yFin yF
    rw [if_neg (by omega), if_pos (by omega)]
  | succ m ih =>
    intro n hn
    have hb := bt_lt y n
    rw [e_X1_charactersIn_2]
    simp (disch := omega) only [jl, jle, v_signIn, joc, jeq0, jlt, nI_add]
    rw [if_neg (by omega), yF]
    by_cases h0 : bt y n = 0
    · rw [if_pos h0, if_pos h0, fin n (by omega)]
    · rw [if_neg h0, if_neg h0]
      by_cases h33 : bt y n < 33
      · rw [if_pos h33, if_pos h33]
      · rw [if_neg h33, if_neg h33]
        by_cases h126 : bt y n ≤ 126
        · rw [if_pos h126, if_pos h126]
          exact ih (n + 1) (by omega)
        · rw [if_neg h126, if_neg h126]
theorem v_charN (y : Int64) (w : Wd) : f_X1_charactersIn y w = some (nI (yN y), w) := by
  rw [e_X1_charactersIn]
  exact v_chars y w 8 0 rfl
def putG (g : Gst) (y : Int64) (r : Nat) : Gst := ((g.1.1 + r, fun i => if i < g.1.1 then g.1.2 i else bt y (r - 1 - (i - g.1.1))), g.2)
theorem putG_GI (hG : GI g) {y : Int64} {r : Nat} (hb : ∀ i, i < r → 33 ≤ bt y i ∧ bt y i ≤ 126) (hp : g.1.1 + r ≤ 40) : GI (putG g y r) := by
  refine ⟨⟨hp, fun i hi => ?_⟩, hG.2⟩
  have hi : i < g.1.1 + r := hi
  show 33 ≤ (if i < g.1.1 then g.1.2 i else bt y (r - 1 - (i - g.1.1))) ∧ (if i < g.1.1 then g.1.2 i else bt y (r - 1 - (i - g.1.1))) ≤ 126
  by_cases e : i < g.1.1
  · rw [if_pos e]; exact hG.1.2 i e
  · rw [if_neg e]; exact hb _ (by omega)
theorem k_put {y : Int64} {r : Nat} (hr : yN y = r) (h0 : 0 < r) (hp : g.1.1 + r ≤ 40) : OK (f_X7_put 0 y) g (nI (g.1.1 + r)) (putG g y r) := fun w hC => by
  have hX := hC.1.1
  obtain ⟨w', a1, a2, a3, a4, a5⟩ := v_app_lp y r g.1.1 w hp hX.1
  refine ⟨w', ?_, a2.sub sub_SPd, ⟨CJ_pad a2 (p' := g.1.1 + r) (S' := fun i => if i < g.1.1 then g.1.2 i else bt y (r - 1 - (i - g.1.1))) ⟨a3, fun i hi => ?_⟩ hC.1, CS_fr a2 rfl rfl rfl rfl rfl rfl hC.2⟩⟩
  · have h0' : ¬ r = 0 := by omega
    rw [e_X7_put, v_charN, joc, hr]
    simp (disch := omega) only [jeq0, h0', ↓reduceIte, e_X1_length, joc, hX.1, nI_add, jl, jle, hp, e_X1_append, jsub]
    have := jpred (r - 1)
    rw [show r - 1 + 1 = r by omega] at this
    rw [← this, a1, joc, a3]
  · dsimp only
    by_cases e : i < g.1.1
    · rw [if_pos e, a4 i e]; exact hX.2 i e
    · rw [if_neg e]
      have := a5 (i - g.1.1) (by omega)
      rw [show g.1.1 + (i - g.1.1) = i by omega] at this
      exact this
theorem k_put_bad {y : Int64} (hr : yN y = 0) : OK (f_X7_put 0 y) g (Int32.ofInt (-2)) g := OK_same fun w _ => by
  rw [e_X7_put, v_charN, joc, hr, if_pos (by rfl)]
def wipG (g : Gst) : Gst := ((0, g.1.2), g.2)
theorem wipG_GI (hG : GI g) : GI (wipG g) := ⟨⟨Nat.zero_le _, fun i hi => absurd hi (Nat.not_lt_zero _)⟩, hG.2⟩
theorem k_wipe : OK (f_X7_wipe 0) g (nI g.1.1) (wipG g) := fun w hC => by
  have f1 : Fr SPd w (wI w 1 0 1 (nI 0)) := Fr.rf.wI (by decide)
  refine ⟨wI w 1 0 1 (nI 0), ?_, f1.sub sub_SPd, ⟨CJ_pad f1 (p' := 0) (S' := g.1.2) ⟨by rw [jw1, if_pos ⟨rfl, rfl, rfl⟩], fun i hi => absurd hi (Nat.not_lt_zero _)⟩ hC.1, CS_fr f1 rfl rfl rfl rfl rfl rfl hC.2⟩⟩
  rw [e_X7_wipe, e_X1_length, joc, e_X1_clear, joc, hC.1.1.1]
  simp only [jl]
/-! faults -/
section FT
variable {p : Nat} {S : Nat → Nat} {w : Wd}
theorem v_faultR_lp (hS : SK p S) (hX : PX w p S) : ∀ (m i : Nat), m + i = p → i ≤ 24 → (∀ j, j < i → dg (S j) = true) → ∃ v, x_X1_faultAsRun 2 [] [some (zr 1 0), some (zi (nI i))] w = some (v, w) ∧ ((v = Int32.ofInt (-6) ∧ okR p S) ∨ (∃ a, a < 100 ∧ v = nI a) ∧ ¬ okR p S) := by
  have hp := hS.1
  intro m
  induction m with
  | zero =>
    intro i hm hi hd
    have : i = p := by omega
    subst this
    refine ⟨Int32.ofInt (-6), ?_, Or.inl ⟨rfl, hi, hd⟩⟩
    rw [e_X1_faultAsRun_2, hX.1]
    simp (disch := omega) only [jle, Nat.le_refl, ↓reduceIte]
  | succ m ih =>
    intro i hm hi hd
    have hip : i < p := by omega
    have hs := hS.2 i hip
    have hc : x_X1_faultAsRun 2 [] [some (zr 1 0), some (zi (nI i))] w = if dg (S i) = true then (if i < 24 then x_X1_faultAsRun 2 [] [some (zr 1 0), some (zi (nI (i + 1)))] w else some (nI i, w)) else some (nI i, w) := by
      rw [e_X1_faultAsRun_2, hX.1]
      simp (disch := omega) only [jle, v_isDigit hS hX hip, joc, j01, jl, jlt, nI_add]
      rw [if_neg (by omega)]
      cases dg (S i) <;> rfl
    rw [hc]
    cases hds : dg (S i) with
    | false =>
      rw [if_neg (by decide)]
      exact ⟨nI i, rfl, Or.inr ⟨⟨i, by omega, rfl⟩, fun h => by rw [h.2 i hip] at hds; cases hds⟩⟩
    | true =>
      rw [if_pos rfl]
      by_cases h24 : i < 24
      · rw [if_pos h24]
        exact ih (i + 1) (by omega) (by omega) fun j hj => by
          by_cases e : j = i
          · rw [e]; exact hds
          · exact hd j (by omega)
      · rw [if_neg h24]
        exact ⟨nI i, rfl, Or.inr ⟨⟨i, by omega, rfl⟩, fun h => by have := h.1; omega⟩⟩
theorem v_faultR (hS : SK p S) (hX : PX w p S) : ∃ v, f_X1_faultAsRun 0 w = some (v, w) ∧ ((v = Int32.ofInt (-6) ∧ okR p S) ∨ (∃ a, a < 100 ∧ v = nI a) ∧ ¬ okR p S) := by
  obtain ⟨v, h1, h2⟩ := v_faultR_lp hS hX p 0 rfl (by omega) (fun j hj => by omega)
  exact ⟨v, by rw [e_X1_faultAsRun]; exact h1, h2⟩
theorem v_faultP_lp (hS : SK p S) (hX : PX w p S) : ∀ (m i : Nat), m + i = p → i ≤ 12 → (∀ j, j < i → if j % 2 = 0 then kd (S j) < 4 else dg (S j) = true) → ∃ v, x_X1_faultAsProgram 2 [] [some (zr 1 0), some (zi (nI i)), none] w = some (v, w) ∧ ((v = Int32.ofInt (-6) ∧ okP p S) ∨ (∃ a, a < 100 ∧ v = nI a) ∧ ¬ okP p S) := by
  have hp := hS.1
  intro m
  induction m with
  | zero =>
    intro i hm hi hd
    have : i = p := by omega
    subst this
    have h2 : i % 2 < 2 := Nat.mod_lt _ (by decide)
    by_cases he : i % 2 = 0
    · refine ⟨Int32.ofInt (-6), ?_, Or.inl ⟨rfl, hi, he, hd⟩⟩
      rw [e_X1_faultAsProgram_2, hX.1]
      simp (disch := omega) only [jle, Nat.le_refl, ↓reduceIte, jl, jdiv, jmul, jsub, jmod, jeq0, he, Nat.reduceEqDiff]
    · have he1 : i % 2 = 1 := by omega
      refine ⟨nI i, ?_, Or.inr ⟨⟨i, by omega, rfl⟩, fun h => he h.2.1⟩⟩
      rw [e_X1_faultAsProgram_2, hX.1]
      simp (disch := omega) only [jle, Nat.le_refl, ↓reduceIte, jl, jdiv, jmul, jsub, jmod, jeq0, he1, Nat.reduceEqDiff]
  | succ m ih =>
    intro i hm hi hd
    have hip : i < p := by omega
    have hs := hS.2 i hip
    have h2 : i % 2 < 2 := Nat.mod_lt _ (by decide)
    let ok : Bool := if i % 2 = 0 then decide (kd (S i) < 4) else dg (S i)
    have hc : x_X1_faultAsProgram 2 [] [some (zr 1 0), some (zi (nI i)), none] w = if ok = true then (if i < 12 then x_X1_faultAsProgram 2 [] [some (zr 1 0), some (zi (nI (i + 1))), none] w else some (nI i, w)) else some (nI i, w) := by
      rw [e_X1_faultAsProgram_2, hX.1]
      simp (disch := omega) only [jle, jl, jdiv, jmul, jsub, jmod, jeq0, Nat.reduceEqDiff, ↓reduceIte, v_isDigit hS hX hip, v_kindAt hS hX hip, joc, j01, jlt, nI_add]
      rw [if_neg (by omega)]
      show _ = if (if i % 2 = 0 then decide (kd (S i) < 4) else dg (S i)) = true then _ else _
      by_cases he : i % 2 = 0
      · rw [if_pos he, if_pos he]
        by_cases hk : kd (S i) < 4
        · rw [if_pos hk, if_neg (show ¬ nI (kd (S i)) = Int32.ofInt (-1) by rw [jm1 (by omega)]; exact id), if_pos (show decide (kd (S i) < 4) = true from decide_eq_true hk)]
        · rw [if_neg hk, if_pos rfl, if_neg (show ¬ decide (kd (S i) < 4) = true by simp [hk])]
      · rw [if_neg he, if_neg he]
        cases dg (S i) <;> rfl
    have hok : ok = true ↔ (if i % 2 = 0 then kd (S i) < 4 else dg (S i) = true) := by
      show (if i % 2 = 0 then decide (kd (S i) < 4) else dg (S i)) = true ↔ _
      by_cases he : i % 2 = 0
      · rw [if_pos he, if_pos he, decide_eq_true_eq]
      · rw [if_neg he, if_neg he]
    rw [hc]
    by_cases hko : ok = true
    · rw [if_pos hko]
      by_cases h12 : i < 12
      · rw [if_pos h12]
        exact ih (i + 1) (by omega) (by omega) fun j hj => by
          by_cases e : j = i
          · rw [e]; exact hok.mp hko
          · exact hd j (by omega)
      · rw [if_neg h12]
        exact ⟨nI i, rfl, Or.inr ⟨⟨i, by omega, rfl⟩, fun h => by have := h.1; omega⟩⟩
    · rw [if_neg hko]
      exact ⟨nI i, rfl, Or.inr ⟨⟨i, by omega, rfl⟩, fun h => hko (hok.mpr (h.2.2 i hip))⟩⟩
theorem v_faultP (hS : SK p S) (hX : PX w p S) : ∃ v, f_X1_faultAsProgram 0 w = some (v, w) ∧ ((v = Int32.ofInt (-6) ∧ okP p S) ∨ (∃ a, a < 100 ∧ v = nI a) ∧ ¬ okP p S) := by
  obtain ⟨v, h1, h2⟩ := v_faultP_lp hS hX p 0 rfl (by omega) (fun j hj => by omega)
  exact ⟨v, by rw [e_X1_faultAsProgram]; exact h1, h2⟩
theorem v_faultR_ok (hS : SK p S) (hX : PX w p S) (hO : okR p S) : f_X1_faultAsRun 0 w = some (Int32.ofInt (-6), w) := by
  obtain ⟨v, h1, h2⟩ := v_faultR hS hX
  rcases h2 with ⟨rfl, -⟩ | ⟨-, h⟩
  · exact h1
  · exact absurd hO h
theorem v_faultP_ok (hS : SK p S) (hX : PX w p S) (hO : okP p S) : f_X1_faultAsProgram 0 w = some (Int32.ofInt (-6), w) := by
  obtain ⟨v, h1, h2⟩ := v_faultP hS hX
  rcases h2 with ⟨rfl, -⟩ | ⟨-, h⟩
  · exact h1
  · exact absurd hO h
theorem v_faultR_no (hS : SK p S) (hX : PX w p S) (hO : ¬ okR p S) : ∃ v, f_X1_faultAsRun 0 w = some (v, w) ∧ ¬ v = Int32.ofInt (-6) := by
  obtain ⟨v, h1, h2⟩ := v_faultR hS hX
  rcases h2 with ⟨-, h⟩ | ⟨⟨a, ha, rfl⟩, -⟩
  · exact absurd h hO
  · exact ⟨_, h1, by rw [jm6 (by omega)]; exact id⟩
theorem v_faultP_no (hS : SK p S) (hX : PX w p S) (hO : ¬ okP p S) : ∃ v, f_X1_faultAsProgram 0 w = some (v, w) ∧ ¬ v = Int32.ofInt (-6) := by
  obtain ⟨v, h1, h2⟩ := v_faultP hS hX
  rcases h2 with ⟨-, h⟩ | ⟨⟨a, ha, rfl⟩, -⟩
  · exact absurd h hO
  · exact ⟨_, h1, by rw [jm6 (by omega)]; exact id⟩
end FT
theorem k_fault0 (hG : GI g) (hO : okP g.1.1 g.1.2) : OK (f_X7_fault 0 (nI 0)) g (Int32.ofInt (-6)) g := OK_same fun w hC => by
  rw [e_X7_fault, if_pos (by rfl), v_faultP_ok hG.1 hC.1.1 hO, joc]
theorem k_fault1 (hG : GI g) (hO : okR g.1.1 g.1.2) : OK (f_X7_fault 0 (nI 1)) g (Int32.ofInt (-6)) g := OK_same fun w hC => by
  rw [e_X7_fault, if_neg (by decide), if_pos (by rfl), v_faultR_ok hG.1 hC.1.1 hO, joc]
theorem k_fault2 : OK (f_X7_fault 0 (nI 2)) g (Int32.ofInt (-2)) g := OK_same fun w hC => by
  rw [e_X7_fault, if_neg (by decide), if_neg (by decide)]
theorem k_fault_neg : OK (f_X7_fault 0 (Int32.ofInt (-1))) g (Int32.ofInt (-2)) g := OK_same fun w hC => by
  rw [e_X7_fault, if_neg (by decide), if_neg (by decide)]
end KR
