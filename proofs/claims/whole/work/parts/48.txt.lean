/-! TEXTS: put, wipe, fault. -/
section TX
theorem and255 (z : Int64) : z &&& (255 : Int64) = lN (z.toBitVec.toNat % 256) := by
  unfold lN
  apply Int64.toBitVec_inj.mp
  rw [Int64.toBitVec_and, Int64.toBitVec_ofNat']
  apply BitVec.eq_of_toNat_eq
  rw [BitVec.toNat_and, BitVec.toNat_ofNat, show (255 : Int64).toBitVec.toNat = 2 ^ 8 - 1 from rfl, Nat.and_two_pow_sub_one_eq_mod]
  have : z.toBitVec.toNat % 256 < 256 := Nat.mod_lt _ (by decide)
  omega
theorem lN32 : ∀ b : Nat, b < 256 → (lN b).toInt32 = nI b := by decide +kernel
/-- a number shifted, and its characters -/
def shl (y : Int64) (x : Int32) : Int64 := (y.toUInt64 >>> (((Int32.ofInt 8) * x).toInt64.toUInt64 &&& Int64.toUInt64 63)).toInt64
def bt (y : Int64) (n : Nat) : Nat := (shl y (nI n)).toBitVec.toNat % 256
theorem bt_lt (y : Int64) (n : Nat) : bt y n < 256 := Nat.mod_lt _ (by decide)
theorem v_signIn (y : Int64) (n : Nat) (w : Wd) : f_X1_signIn y (nI n) w = some (nI (bt y n), w) := by
  have h := bt_lt y n
  rw [e_X1_signIn]
  show some ((shl y (nI n) &&& (255 : Int64)).toInt32, w) = _
  rw [and255, lN32 _ (Nat.mod_lt _ (by decide))]
  rfl
theorem chars (y : Int64) {p : Nat} (w wm : Wd) (hp : wm.1 8 0 7 = nI p) (hp40 : p ≤ 40) : ∀ (m n : Nat), m + n = 8 → ∃ r, r ≤ 8 ∧ x_X1_charactersIn 2 [] [some (zl y), none, some (zi (nI n))] w = some (nI r, w) ∧
    x_X8_put 2 [] [some (zr 8 0), some (zl y), none, some (zi (nI n)), none] wm = (if r = 0 then some (Int32.ofInt (-2), wm) else if p + r ≤ 40 then x_X8_put 100 [] [some (zr 8 0), some (zl y), none, none, some (zi (nI r + Int32.ofInt (-1)))] wm else some (Int32.ofInt (-4), wm)) ∧
    ∀ i, n ≤ i → i < r → 33 ≤ bt y i ∧ bt y i ≤ 126 := by
  have sub1 : ∀ r, 0 < r → nI r - nI 1 = nI r + Int32.ofInt (-1) := fun r hr => by
    rw [jsub (by omega)]
    have := jpred (r - 1)
    rw [show r - 1 + 1 = r by omega] at this
    exact this.symm
  have fin : ∀ n, n ≤ 8 → (∃ r, r ≤ 8 ∧ x_X1_charactersIn 44 [] [some (zl y), none, some (zi (nI n))] w = some (nI r, w) ∧
    x_X8_put 57 [] [some (zr 8 0), some (zl y), none, some (zi (nI n)), none] wm = (if r = 0 then some (Int32.ofInt (-2), wm) else if p + r ≤ 40 then x_X8_put 100 [] [some (zr 8 0), some (zl y), none, none, some (zi (nI r + Int32.ofInt (-1)))] wm else some (Int32.ofInt (-4), wm)) ∧ (r = 0 ∨ r = n)) := fun n hn => by
    rw [e_X1_charactersIn_44, e_X8_put_57, hp]
    have e : (y.toUInt64 >>> (((Int32.ofInt 8) * nI n).toInt64.toUInt64 &&& Int64.toUInt64 63)).toInt64 = shl y (nI n) := rfl
    rw [e]
    simp (disch := omega) only [jl, jlL, jle, jeq0, nI_add]
    by_cases h0 : n = 0
    · refine ⟨0, by omega, ?_, by rw [if_pos h0, if_pos rfl], Or.inl rfl⟩
      rw [if_neg (by omega), h0]
      split <;> rfl
    · rw [if_neg h0]
      by_cases h8 : 8 ≤ n
      · refine ⟨n, hn, by rw [if_pos h8], ?_, Or.inr rfl⟩
        rw [if_pos h8, if_neg h0, sub1 n (by omega)]
      · rw [if_neg h8, if_neg h8]
        by_cases hz : lg_cmp (shl y (nI n)) (lN 0) = 0
        · refine ⟨n, hn, by rw [if_pos hz], ?_, Or.inr rfl⟩
          rw [if_pos hz, if_neg h0, sub1 n (by omega)]
        · refine ⟨0, by omega, by rw [if_neg hz], ?_, Or.inl rfl⟩
          rw [if_neg hz, if_pos rfl]
  intro m
  induction m with
  | zero =>
    intro n hn
    obtain ⟨r, h1, h2, h3, h4⟩ := fin n (by omega)
    refine ⟨r, h1, ?_, ?_, fun i hi hir => by omega⟩
    · rw [e_X1_charactersIn_2]
      simp (disch := omega) only [jl, jle]
      rw [if_pos (by omega), h2]
    · rw [← h3, e_X8_put_2]
      simp (disch := omega) only [jl, jle]
      rw [if_pos (by omega)]
  | succ m ih =>
    intro n hn
    have hb := bt_lt y n
    have e : (y.toUInt64 >>> (((Int32.ofInt 8) * nI n).toInt64.toUInt64 &&& Int64.toUInt64 63)).toInt64 &&& (255 : Int64) = lN (bt y n) := and255 _
    have hcls : x_X1_charactersIn 2 [] [some (zl y), none, some (zi (nI n))] w = if bt y n = 0 then x_X1_charactersIn 44 [] [some (zl y), none, some (zi (nI n))] w else if bt y n < 33 then some (nI 0, w) else if bt y n ≤ 126 then x_X1_charactersIn 2 [] [some (zl y), none, some (zi (nI (n + 1)))] w else some (nI 0, w) := by
      rw [e_X1_charactersIn_2]
      simp (disch := omega) only [jl, jle, v_signIn, joc, jeq0, jlt, nI_add]
      rw [if_neg (by omega)]
    have hmdl : x_X8_put 2 [] [some (zr 8 0), some (zl y), none, some (zi (nI n)), none] wm = if bt y n = 0 then x_X8_put 57 [] [some (zr 8 0), some (zl y), none, some (zi (nI n)), none] wm else if 33 ≤ bt y n ∧ bt y n ≤ 126 then x_X8_put 2 [] [some (zr 8 0), some (zl y), none, some (zi (nI (n + 1))), none] wm else some (Int32.ofInt (-2), wm) := by
      rw [e_X8_put_2, e, lN32 _ hb, u_in]
      simp (disch := omega) only [jl, jlL, jle, lcmp0, joc, nI_add, jeq0]
      rw [if_neg (by omega)]
      by_cases h0 : bt y n = 0
      · rw [if_pos h0, if_pos h0]
      · rw [if_neg h0, if_neg h0]
        by_cases h3 : 33 ≤ bt y n ∧ bt y n ≤ 126
        · rw [if_pos h3, if_pos h3, if_neg (by decide)]
        · rw [if_neg h3, if_neg h3, if_pos (show nI 0 = (0 : Int32) from rfl)]
    rw [hcls, hmdl]
    by_cases h0 : bt y n = 0
    · rw [if_pos h0, if_pos h0]
      obtain ⟨r, h1, h2, h3, h4⟩ := fin n (by omega)
      exact ⟨r, h1, h2, h3, fun i hi hir => by omega⟩
    · rw [if_neg h0, if_neg h0]
      by_cases h3 : 33 ≤ bt y n ∧ bt y n ≤ 126
      · rw [if_neg (by omega), if_pos h3.2, if_pos h3]
        obtain ⟨r, h1, h2, h4, h5⟩ := ih (n + 1) (by omega)
        refine ⟨r, h1, h2, h4, fun i hi hir => ?_⟩
        by_cases e : i = n
        · rw [e]; exact h3
        · exact h5 i (by omega) hir
      · refine ⟨0, by omega, ?_, ?_, fun i hi hir => by omega⟩
        · by_cases h33 : bt y n < 33
          · rw [if_pos h33]
          · rw [if_neg h33, if_neg (by omega)]
        · rw [if_neg h3, if_pos rfl]
/-- the pad of the class, of the reference -/
def PX (w : Wd) (p : Nat) (S : Nat → Nat) : Prop := w.1 1 0 1 = nI p ∧ ∀ i, i < p → w.1 10 0 i = nI (S i)
def PM (w : Wd) (p : Nat) (S : Nat → Nat) : Prop := w.1 8 0 7 = nI p ∧ ∀ i, i < p → w.1 31 0 i = nI (S i)
def SK (p : Nat) (S : Nat → Nat) : Prop := p ≤ 40 ∧ ∀ i, i < p → 33 ≤ S i ∧ S i ≤ 126
def SPd : Nat → Nat → Bool := S2 (S1 1 0) (S1 10 0)
def SPm : Nat → Nat → Bool := S2 (S1 8 0) (S1 31 0)
def S07 (w w' : Wd) : Prop := (∀ j, j ≠ 7 → w'.1 8 0 j = w.1 8 0 j) ∧ w'.2 8 0 = w.2 8 0
theorem v_app_lp (y : Int64) : ∀ (c q : Nat) (w : Wd), q + c ≤ 40 → w.1 1 0 1 = nI q →
    ∃ w', x_X1_append 5 [] [some (zr 1 0), some (zl y), none, none, some (zi (nI c + Int32.ofInt (-1)))] w = some w' ∧ Fr SPd w w' ∧ w'.1 1 0 1 = nI (q + c) ∧ (∀ i, i < q → w'.1 10 0 i = w.1 10 0 i) ∧ ∀ i, i < c → w'.1 10 0 (q + i) = nI (bt y (c - 1 - i)) := by
  intro c
  induction c with
  | zero =>
    intro q w hq h1
    refine ⟨w, ?_, Fr.rf, h1, fun _ _ => rfl, fun i hi => by omega⟩
    rw [e_X1_append_5, if_pos (by decide)]
  | succ c ih =>
    intro q w hq h1
    have hw : ∀ j, (wI (wI w 10 0 q (nI (bt y c))) 1 0 1 (nI (q + 1))).1 10 0 j = if j = q then nI (bt y c) else w.1 10 0 j := fun j => by
      rw [jw1, if_neg (by omega), jw1]
      by_cases e : j = q
      · rw [if_pos ⟨rfl, rfl, e⟩, if_pos e]
      · rw [if_neg (fun z => e z.2.2), if_neg e]
    obtain ⟨w', g1, g2, g3, g4, g5⟩ := ih (q + 1) (wI (wI w 10 0 q (nI (bt y c))) 1 0 1 (nI (q + 1))) (by omega) (by rw [jw1, if_pos ⟨rfl, rfl, rfl⟩])
    refine ⟨w', ?_, ((Fr.rf.wI (by decide)).wI (by decide)).tr g2, by rw [g3]; congr 1; omega, fun i hi => ?_, fun i hi => ?_⟩
    · rw [← g1, jpred, e_X1_append_5, h1]
      simp (disch := omega) only [jlt0, ↓reduceIte, jl, jle, v_signIn, joc, jchk, jcl]
      rw [if_neg (by omega), jw1, if_neg (by omega), h1, nI_add]
    · rw [g4 i (by omega), hw, if_neg (by omega)]
    · by_cases e : i = 0
      · rw [e, Nat.add_zero, g4 q (by omega), hw, if_pos rfl]
        congr 2
      · have := g5 (i - 1) (by omega)
        rw [show q + 1 + (i - 1) = q + i by omega, show c - 1 - (i - 1) = c + 1 - 1 - i by omega] at this
        exact this
theorem u_app_lp (y : Int64) : ∀ (c q : Nat) (w : Wd), q + c ≤ 40 → w.1 8 0 7 = nI q →
    ∃ w', x_X8_put 100 [] [some (zr 8 0), some (zl y), none, none, some (zi (nI c + Int32.ofInt (-1)))] w = some (nI (q + c), w') ∧ Fr SPm w w' ∧ S07 w w' ∧ w'.1 8 0 7 = nI (q + c) ∧ (∀ i, i < q → w'.1 31 0 i = w.1 31 0 i) ∧ ∀ i, i < c → w'.1 31 0 (q + i) = nI (bt y (c - 1 - i)) := by
  intro c
  induction c with
  | zero =>
    intro q w hq h1
    refine ⟨w, ?_, Fr.rf, ⟨fun _ _ => rfl, rfl⟩, h1, fun _ _ => rfl, fun i hi => by omega⟩
    rw [e_X8_put_100, if_pos (by decide), h1]
    rfl
  | succ c ih =>
    intro q w hq h1
    have hb := bt_lt y c
    have e : (y.toUInt64 >>> (((Int32.ofInt 8) * nI c).toInt64.toUInt64 &&& Int64.toUInt64 63)).toInt64 &&& (255 : Int64) = lN (bt y c) := and255 _
    have hw : ∀ j, (wI (wI w 31 0 q (nI (bt y c))) 8 0 7 (nI (q + 1))).1 31 0 j = if j = q then nI (bt y c) else w.1 31 0 j := fun j => by
      rw [jw1, if_neg (by omega), jw1]
      by_cases e : j = q
      · rw [if_pos ⟨rfl, rfl, e⟩, if_pos e]
      · rw [if_neg (fun z => e z.2.2), if_neg e]
    obtain ⟨w', g1, g2, g3, g4, g5, g6⟩ := ih (q + 1) (wI (wI w 31 0 q (nI (bt y c))) 8 0 7 (nI (q + 1))) (by omega) (by rw [jw1, if_pos ⟨rfl, rfl, rfl⟩])
    refine ⟨w', ?_, ((Fr.rf.wI (by decide)).wI (by decide)).tr g2, ⟨fun j hj => ?_, ?_⟩, by rw [g4]; congr 1; omega, fun i hi => ?_, fun i hi => ?_⟩
    · rw [jpred, e_X8_put_100, h1, e, lN32 _ hb]
      simp (disch := omega) only [jlt0, ↓reduceIte, jl, jchk, jcl]
      rw [jw1, if_neg (by omega), h1, nI_add, g1]
      congr 2
      congr 1
      omega
    · rw [g3.1 j hj, jw1, if_neg (fun z => hj z.2.2), jw1, if_neg (by omega)]
    · rw [g3.2]; rfl
    · rw [g5 i (by omega), hw, if_neg (by omega)]
    · by_cases e : i = 0
      · rw [e, Nat.add_zero, g5 q (by omega), hw, if_pos rfl]
        congr 2
      · have := g6 (i - 1) (by omega)
        rw [show q + 1 + (i - 1) = q + i by omega, show c - 1 - (i - 1) = c + 1 - 1 - i by omega] at this
        exact this
theorem q_put (y : Int64) {p : Nat} {S : Nat → Nat} (hS : SK p S) {w : Wd} (hX : PX w p S) : ∀ wm, PM wm p S → ∃ v w' wm' p' S', f_X7_put 0 y w = some (v, w') ∧ f_X8_put 0 y wm = some (v, wm') ∧ Fr SPd w w' ∧ Fr SPm wm wm' ∧ S07 wm wm' ∧ SK p' S' ∧ PX w' p' S' ∧ PM wm' p' S' ∧ (v < 0 → w' = w ∧ wm' = wm) := by
  intro wm hM
  obtain ⟨r, h1, h2, h3, h4⟩ := chars y w wm hM.1 hS.1 8 0 rfl
  have c1 : f_X1_charactersIn y w = some (nI r, w) := by rw [e_X1_charactersIn]; exact h2
  have m1 : f_X8_put 0 y wm = _ := (e_X8_put 0 y wm).trans h3
  have hp := hS.1
  by_cases h0 : r = 0
  · refine ⟨Int32.ofInt (-2), w, wm, p, S, ?_, by rw [m1, if_pos h0], Fr.rf, Fr.rf, ⟨fun _ _ => rfl, rfl⟩, hS, hX, hM, fun _ => ⟨rfl, rfl⟩⟩
    rw [e_X7_put, c1, joc, h0, if_pos (by rfl)]
  · by_cases h40 : p + r ≤ 40
    · obtain ⟨w', a1, a2, a3, a4, a5⟩ := v_app_lp y r p w h40 hX.1
      obtain ⟨wm', b1, b2, b3, b4, b5, b6⟩ := u_app_lp y r p wm h40 hM.1
      refine ⟨nI (p + r), w', wm', p + r, fun i => if i < p then S i else bt y (r - 1 - (i - p)), ?_, by rw [m1, if_neg h0, if_pos h40, b1], a2, b2, b3, ⟨h40, fun i hi => ?_⟩, ⟨a3, fun i hi => ?_⟩, ⟨b4, fun i hi => ?_⟩, fun h => absurd h (nI_pos (show p + r < 2 ^ 31 by omega))⟩
      · rw [e_X7_put, c1, joc]
        simp (disch := omega) only [jeq0, h0, ↓reduceIte, e_X1_length, joc, hX.1, nI_add, jl, jle, h40, e_X1_append, jsub]
        have := jpred (r - 1)
        rw [show r - 1 + 1 = r by omega] at this
        rw [← this, a1, joc, a3]
      · dsimp only
        by_cases e : i < p
        · rw [if_pos e]; exact hS.2 i e
        · rw [if_neg e]; exact h4 _ (Nat.zero_le _) (by omega)
      · dsimp only
        by_cases e : i < p
        · rw [if_pos e, a4 i e]; exact hX.2 i e
        · rw [if_neg e]
          have := a5 (i - p) (by omega)
          rw [show p + (i - p) = i by omega] at this
          exact this
      · dsimp only
        by_cases e : i < p
        · rw [if_pos e, b5 i e]; exact hM.2 i e
        · rw [if_neg e]
          have := b6 (i - p) (by omega)
          rw [show p + (i - p) = i by omega] at this
          exact this
    · refine ⟨Int32.ofInt (-4), w, wm, p, S, ?_, by rw [m1, if_neg h0, if_neg h40], Fr.rf, Fr.rf, ⟨fun _ _ => rfl, rfl⟩, hS, hX, hM, fun _ => ⟨rfl, rfl⟩⟩
      rw [e_X7_put, c1, joc]
      simp (disch := omega) only [jeq0, h0, ↓reduceIte, e_X1_length, joc, hX.1, nI_add, jl, jle, h40]
end TX
