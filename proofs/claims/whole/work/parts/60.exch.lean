/-! exchange alike. -/
section XC
theorem u_in_l2 {n : Nat} (hn : n < 2147483648) {x : Int32} (w : Wd) : ((x < 0 ∨ ∃ q, q < 2147483648 ∧ x = nI q ∧ n ≤ q + 1) → f_X8_in x (nI 0) (nI n - nI 2) w = some (nI 0, w)) ∧ ∀ q, x = nI q → q + 1 < n → f_X8_in x (nI 0) (nI n - nI 2) w = some (nI 1, w) := by
  refine ⟨fun h => ?_, fun q hx hq => ?_⟩
  · rw [u_in, if_neg]
    intro hin
    rcases h with h | ⟨q, hq, rfl, h4⟩
    · exact absurd hin.1 (Int32.not_le.mpr h)
    · by_cases h0 : n < 2
      · rcases (show n = 0 ∨ n = 1 by omega) with rfl | rfl
        · have := Int32.le_trans hin.1 hin.2
          exact absurd this (by decide)
        · have := Int32.le_trans hin.1 hin.2
          exact absurd this (by decide)
      · have h5 := hin.2
        rw [jsub (by omega), jle hq (by omega)] at h5
        omega
  · rw [hx, jsub (by omega), u_in_n (by omega) (by omega), if_pos (by omega)]
theorem a2_exchange (x y : Int32) : A2 (f_X7_exchange 0 x y) (f_X8_exchange 0 x y) := fun g w wm hG hC hM => by
  obtain ⟨hW, hE, hN, hV⟩ := hG.2.1
  have hRP := hC.1.2.1.1
  have hRQ := MI_RQ hM
  rcases jsml x 4 with hx | ⟨t, ht, ht31, rfl⟩
  · refine ⟨Int32.ofInt (-1), w, g, wm, ?_, Fr.rf, hG, hC, ?_, Fr.rf, hM⟩
    · rw [e_X7_exchange, v_isThread_b hx, joc, if_pos (by rfl)]
    · rw [e_X8_exchange, u_isThread_b hx, joc, if_pos (by rfl)]
  · have hL := (hW t ht).1
    have hLt := hRQ.1 t ht
    rw [Nat.zero_add] at hLt
    have c0 : f_X7_exchange 0 (nI t) y w = (if y < 0 then (some ((Int32.ofInt (-1)), w)) else (if y < nI (g.2.1.1 t) - nI 1 then (oC (f_X2_stepOf 0 (nI t) y w) fun q3 => (oC (f_X2_stepOf 0 (nI t) (y + (nI 1)) q3.2) fun q4 => (if q3.1 = q4.1 then (x_X7_exchange 64 [zi (nI 0)] [some (zr 7 0), some (zi (nI t)), some (zi y), none] q4.2) else (x_X7_exchange 64 [zi (nI 1)] [some (zr 7 0), some (zi (nI t)), some (zi y), none] q4.2)))) else (some ((Int32.ofInt (-1)), w)))) := by
      rw [e_X7_exchange, v_isThread ht31, joc, if_pos ht, if_neg (show ¬ nI 1 = (0 : Int32) by decide), v_lengthOf hRP ht, joc]
      simp only [jl]
    have m0 : ∀ r, f_X8_in y (nI 0) (nI (g.2.1.1 t) - nI 2) wm = some (nI r, wm) → r = 0 → f_X8_exchange 0 (nI t) y wm = some (Int32.ofInt (-1), wm) := fun r h hr => by
      rw [e_X8_exchange, u_isThread ht31, joc, if_pos ht, if_neg (show ¬ nI 1 = (0 : Int32) by decide)]
      simp (disch := omega) only [jl, jchk, jcl, hLt]
      rw [h, joc, hr, if_pos (by rfl)]
    have bad : (y < 0 ∨ ∃ q, q < 2147483648 ∧ y = nI q ∧ g.2.1.1 t ≤ q + 1) → ∃ v w' g' wm', f_X7_exchange 0 (nI t) y w = some (v, w') ∧ Fr SCl w w' ∧ GI g' ∧ CI w' g' ∧ f_X8_exchange 0 (nI t) y wm = some (v, wm') ∧ Fr SMd wm wm' ∧ MI wm' g' := fun hy => by
      refine ⟨Int32.ofInt (-1), w, g, wm, ?_, Fr.rf, hG, hC, m0 0 ((u_in_l2 (by omega) wm).1 hy) rfl, Fr.rf, hM⟩
      rw [c0]
      rcases hy with hy | ⟨q, hq, rfl, h4⟩
      · rw [if_pos hy]
      · simp (disch := omega) only [jlt0, ↓reduceIte]
        by_cases h0 : g.2.1.1 t = 0
        · rw [h0, if_neg]
          intro h
          have : nI q < (0 : Int32) := Int32.lt_trans h (by decide)
          exact nI_pos hq this
        · rw [if_neg]
          rw [jsub (by omega), jlt hq (by omega)]
          omega
    rcases jnat y with hy | ⟨s, hs31, rfl⟩
    · exact bad (Or.inl hy)
    · by_cases hs : s + 1 < g.2.1.1 t
      · have h1 := P_lt hW ht (show s < g.2.1.1 t by omega)
        have h2 := P_lt hW ht hs
        let d : Nat := if g.2.1.2.1 t s = g.2.1.2.1 t (s + 1) then 0 else 1
        have hd : d < 2 := by show (if g.2.1.2.1 t s = g.2.1.2.1 t (s + 1) then 0 else 1) < 2; split <;> decide
        have c1 : f_X7_exchange 0 (nI t) (nI s) w = x_X7_exchange 64 [zi (nI d)] [some (zr 7 0), some (zi (nI t)), some (zi (nI s)), none] w := by
          rw [c0]
          have hlt : nI s < nI (g.2.1.1 t) - nI 1 := by
            rw [jsub (by omega), jlt hs31 (by omega)]
            omega
          rw [if_neg (nI_pos (show s < 2 ^ 31 by omega)), if_pos hlt, v_stepOf hRP hW ht (by omega), joc, nI_add, v_stepOf hRP hW ht hs, joc]
          show _ = x_X7_exchange 64 [zi (nI (if g.2.1.2.1 t s = g.2.1.2.1 t (s + 1) then 0 else 1))] _ w
          simp (disch := omega) only [jeq]
          split <;> rfl
        obtain ⟨m1, b1, b2, b3, b4, b5⟩ := u_aside hG hM
        have p1 := b4.1.2 t s ht (by omega)
        have p2 := b4.1.2 t (s + 1) ht hs
        rw [Nat.zero_add] at p1 p2
        have f2 : Fr (S1 30 0) m1 (wI (wI m1 30 0 (4 + 6 * t + s) (nI (g.2.1.2.1 t (s + 1)))) 30 0 (4 + 6 * t + s + 1) (nI (g.2.1.2.1 t s))) := (Fr.rf.wI (by decide)).wI (by decide)
        have r2 : RQ (wI (wI m1 30 0 (4 + 6 * t + s) (nI (g.2.1.2.1 t (s + 1)))) 30 0 (4 + 6 * t + s + 1) (nI (g.2.1.2.1 t s))) 0 0 g.2.1.1 (xP g.2.1.2.1 t s) := ⟨fun u hu => by rw [jw1, if_neg (by omega), jw1, if_neg (by omega)]; exact b4.1.1 u hu, fun u k hu hk => by
          have hLu := (hW u hu).1
          unfold xP
          rw [jw1, jw1]
          by_cases q1 : u = t ∧ k = s
          · rw [if_neg (by omega), if_pos ⟨rfl, rfl, by rw [q1.1, q1.2]; omega⟩, if_pos q1]
          · by_cases q2 : u = t ∧ k = s + 1
            · rw [if_pos ⟨rfl, rfl, by rw [q2.1, q2.2]; omega⟩, if_neg q1, if_pos q2]
            · rw [if_neg (by omega), if_neg (by omega), if_neg q1, if_neg q2]
              exact b4.1.2 u k hu hk⟩
        have m1' : f_X8_exchange 0 (nI t) (nI s) wm = (oC (f_X8_isWell 0 (nI t) (wI (wI m1 30 0 (4 + 6 * t + s) (nI (g.2.1.2.1 t (s + 1)))) 30 0 (4 + 6 * t + s + 1) (nI (g.2.1.2.1 t s)))) fun q4 => (if q4.1 = 0 then (oC (f_X8_copies 3 (nI 0) 0 (nI 0) q4.2) fun q6 => (some ((Int32.ofInt (-5)), q6))) else (oC (f_X8_records 0 3 q4.2) fun q5 => (if g.2.1.2.1 t s = g.2.1.2.1 t (s + 1) then (some ((nI 0), (wI q5 30 0 28 (nI 0)))) else (some ((nI 1), (wI q5 30 0 28 (nI 0)))))))) := by
          rw [e_X8_exchange, u_isThread ht31, joc, if_pos ht, if_neg (show ¬ nI 1 = (0 : Int32) by decide)]
          simp (disch := omega) only [jl, jchk, jcl, hLt]
          rw [(u_in_l2 (n := g.2.1.1 t) (by omega) wm).2 s rfl hs, joc, if_neg (show ¬ nI 1 = (0 : Int32) by decide), b1, joc]
          rw [show 4 + 6 * t + (s + 1) = 4 + 6 * t + s + 1 by omega] at p2
          simp (disch := omega) only [jmul, nI_add, jchk, jcl, p1, p2, jeq]
        have hMP : MP (wI (wI m1 30 0 (4 + 6 * t + s) (nI (g.2.1.2.1 t (s + 1)))) 30 0 (4 + 6 * t + s + 1) (nI (g.2.1.2.1 t s))) g := MP_fr f2 rfl rfl rfl rfl b3
        have h3 : MS (wI (wI m1 30 0 (4 + 6 * t + s) (nI (g.2.1.2.1 t (s + 1)))) 30 0 (4 + 6 * t + s + 1) (nI (g.2.1.2.1 t s))) 3 0 g.2.1 := MS_fr f2 rfl b5
        have fm2 : Fr SMd wm (wI (wI m1 30 0 (4 + 6 * t + s) (nI (g.2.1.2.1 t (s + 1)))) 30 0 (4 + 6 * t + s + 1) (nI (g.2.1.2.1 t s))) := (b2.sub (sub_S1 rfl)).tr (f2.sub (sub_S1 rfl))
        generalize wI (wI m1 30 0 (4 + 6 * t + s) (nI (g.2.1.2.1 t (s + 1)))) 30 0 (4 + 6 * t + s + 1) (nI (g.2.1.2.1 t s)) = m2 at r2 m1' hMP h3 fm2
        obtain ⟨hW', hN', hh⟩ := v_exchange_64 hG hC ht hs d hd
        rcases hh with ⟨hw, w', k1, k2, k3⟩ | ⟨hw, hE', w', k1, k2, k3⟩
        · obtain ⟨m3, j1, j2, j3⟩ := u_back hG hMP h3
          refine ⟨Int32.ofInt (-5), w', g, m3, by rw [c1]; exact k1, k2, hG, k3, ?_, fm2.tr (j2.sub (sub_S1 rfl)), j3⟩
          rw [m1', u_isWell 0 r2 hW' ht, joc, hw, if_pos (by rfl), j1, joc]
        · obtain ⟨m3, j1, j2, j3, -⟩ := u_change hG hMP hW' h3 r2
          refine ⟨nI d, w', _, wI m3 30 0 28 (nI 0), by rw [c1]; exact k1, k2, chG_GI hG hW' hE' hN', k3, ?_, fm2.tr j2, j3⟩
          rw [m1', u_isWell 0 r2 hW' ht, joc, hw, if_neg (show ¬ nI (if true = true then 1 else 0) = (0 : Int32) by decide), j1, joc]
          show _ = some (nI (if g.2.1.2.1 t s = g.2.1.2.1 t (s + 1) then 0 else 1), wI m3 30 0 28 (nI 0))
          split <;> rfl
      · exact bad (Or.inr ⟨s, hs31, rfl, by omega⟩)
end XC
