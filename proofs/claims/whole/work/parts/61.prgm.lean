/-! program alike. -/
section PM'
def pgC (S : Nat → Nat) (k : Nat) : Nat := 4 * kd (S (2 * k)) + (S (2 * k + 1) - 48)
def pgL (t p : Nat) (L : Nat → Nat) (u : Nat) : Nat := if u = t then p / 2 else L u
def pgP (S : Nat → Nat) (t p : Nat) (P : Nat → Nat → Nat) (u k : Nat) : Nat := if u = t then (if k < p / 2 then pgC S k else 0) else P u k
variable {p : Nat} {S : Nat → Nat} {L : Nat → Nat} {P : Nat → Nat → Nat}
theorem okP_k (hO : okP p S) {k : Nat} (hk : k < p / 2) : kd (S (2 * k)) < 4 ∧ dg (S (2 * k + 1)) = true := by
  have h1 := hO.2.2 (2 * k) (by omega)
  have h2 := hO.2.2 (2 * k + 1) (by omega)
  rw [if_pos (by omega)] at h1
  rw [if_neg (by omega)] at h2
  exact ⟨h1, h2⟩
theorem dg_le {s : Nat} (h : dg s = true) : 48 ≤ s ∧ s ≤ 51 := by
  unfold dg at h
  rw [Bool.and_eq_true] at h
  exact ⟨of_decide_eq_true h.1, of_decide_eq_true h.2⟩
theorem pgC_lt (hO : okP p S) {k : Nat} (hk : k < p / 2) : pgC S k < 16 := by
  obtain ⟨h1, h2⟩ := okP_k hO hk
  have := dg_le h2
  unfold pgC
  omega
theorem pgW (hW : WP L P) (hO : okP p S) (t : Nat) : WP (pgL t p L) (pgP S t p P) := fun u hu => by
  have h12 := hO.1
  unfold pgL pgP
  by_cases e : u = t
  · rw [if_pos e]
    refine ⟨by omega, fun s hs => ?_⟩
    rw [if_pos e, if_pos hs]
    exact pgC_lt hO hs
  · rw [if_neg e]
    refine ⟨(hW u hu).1, fun s hs => ?_⟩
    rw [if_neg e]
    exact (hW u hu).2 s hs
theorem pgN (hN : CN L P) {t : Nat} (ht : t < 4) : CN (pgL t p L) (pgP S t p P) := by
  refine ⟨fun u hu => ?_, fun u s h => ?_⟩
  · unfold pgL
    rw [if_neg (by omega)]
    exact hN.1 u hu
  · unfold pgP
    by_cases e : u = t
    · rw [if_pos e, if_neg]
      rcases h with h | h
      · omega
      · unfold pgL at h
        rw [if_pos e] at h
        omega
    · rw [if_neg e]
      refine hN.2 u s ?_
      rcases h with h | h
      · exact Or.inl h
      · unfold pgL at h
        rw [if_neg e] at h
        exact Or.inr h
theorem v_readP (hS : SK p S) (hO : okP p S) (hW : WP L P) {t : Nat} (ht : t < 4) {w : Wd} (hX : PX w p S) (hR : RP w 9 L P) : ∃ w', f_X2_readProgram 9 (nI t) 0 w = some w' ∧ Fr (SPg 9) w w' ∧ RP w' 9 (pgL t p L) (pgP S t p P) := by
  have h12 := hO.1
  have h2 := hO.2.1
  have lp : ∀ (m k : Nat) (w : Wd), m + k = p / 2 → PX w p S → w.1 12 9 t = nI k → (∀ j, j < k → w.1 11 9 (t * 6 + j) = nI (pgC S j)) → (∀ u, u < 4 → u ≠ t → w.1 12 9 u = nI (L u) ∧ ∀ s, s < L u → w.1 11 9 (u * 6 + s) = nI (P u s)) →
      ∃ w', x_X2_readProgram 9 [] [some (zr 2 9), some (zi (nI t)), some (zr 1 0), some (zi (nI (2 * k)))] w = some w' ∧ Fr (SPg 9) w w' ∧ RP w' 9 (pgL t p L) (pgP S t p P) := by
    intro m
    induction m with
    | zero =>
      intro k w hm hX h12' h11 hoth
      have hk : k = p / 2 := by omega
      refine ⟨w, ?_, Fr.rf, fun u hu => ?_, fun u s hu hs => ?_⟩
      · rw [e_X2_readProgram_9, e_X1_length, hX.1, joc]
        simp (disch := omega) only [jl, nI_add, jle]
        rw [if_pos (by omega)]
      · unfold pgL
        by_cases e : u = t
        · rw [if_pos e, e, h12', hk]
        · rw [if_neg e]
          exact (hoth u hu e).1
      · unfold pgL at hs
        unfold pgP
        by_cases e : u = t
        · rw [if_pos e] at hs ⊢
          rw [if_pos hs, e]
          exact h11 s (by omega)
        · rw [if_neg e] at hs ⊢
          exact (hoth u hu e).2 s hs
    | succ m ih =>
      intro k w hm hX h12' h11 hoth
      have hk : k < p / 2 := by omega
      obtain ⟨k1, k2⟩ := okP_k hO hk
      have k3 := dg_le k2
      have f1 : Fr (SPg 9) w (wI (wI w 11 9 (t * 6 + k) (nI (pgC S k))) 12 9 t (nI (k + 1))) := (Fr.rf.wI (SPg_11 9)).wI (SPg_12 9)
      obtain ⟨w', a1, a2, a3⟩ := ih (k + 1) _ (by omega) (PX_fr f1 rfl rfl hX) (by rw [jw1, if_pos ⟨rfl, rfl, rfl⟩]) (fun j hj => by
        rw [jw1, if_neg (by omega), jw1]
        by_cases e : j = k
        · rw [if_pos ⟨rfl, rfl, by rw [e]⟩, e]
        · rw [if_neg (by omega)]
          exact h11 j (by omega)) (fun u hu hne => by
        have hLu := (hW u hu).1
        refine ⟨?_, fun s hs => ?_⟩
        · rw [jw1, if_neg (by omega), jw1, if_neg (by omega)]
          exact (hoth u hu hne).1
        · rw [jw1, if_neg (by omega), jw1, if_neg (by omega)]
          exact (hoth u hu hne).2 s hs)
      refine ⟨w', ?_, f1.tr a2, a3⟩
      rw [← a1, e_X2_readProgram_9, e_X1_length, hX.1, joc]
      simp only [jl, nI_add]
      rw [v_kindAt hS hX (show 2 * k < p by omega), if_pos k1, joc, v_digitAt hS hX (show 2 * k + 1 < p by omega) k2, joc, v_codeOf k1 (show S (2 * k + 1) - 48 < 4 by omega), joc]
      have ea : f_X2_append 9 (nI t) (nI (4 * kd (S (2 * k)) + (S (2 * k + 1) - 48))) w = some (wI (wI w 11 9 (t * 6 + k) (nI (pgC S k))) 12 9 t (nI (k + 1))) := v_pappend ht h12' (by omega)
      rw [ea, joc]
      simp (disch := omega) only [jle]
      rw [if_neg (by omega)]
      rfl
  have f0 : Fr (SPg 9) w (wI w 12 9 t (nI 0)) := Fr.rf.wI (SPg_12 9)
  obtain ⟨w', a1, a2, a3⟩ := lp (p / 2) 0 (wI w 12 9 t (nI 0)) rfl (PX_fr f0 rfl rfl hX) (by rw [jw1, if_pos ⟨rfl, rfl, rfl⟩]) (fun j hj => by omega) (fun u hu hne => ⟨by rw [jw1, if_neg (by omega)]; exact hR.1 u hu, fun s hs => by rw [jw1, if_neg (by omega)]; exact hR.2 u s hu hs⟩)
  refine ⟨w', ?_, f0.tr a2, a3⟩
  rw [← a1, e_X2_readProgram]
  simp (disch := omega) only [jl, jchk, jcl]
theorem u_readP (hS : SK p S) (hO : okP p S) (hW : WP L P) {t : Nat} (ht : t < 4) : ∀ (m k : Nat) (w : Wd), m + k = p / 2 → PM w p S → w.1 30 0 t = nI (p / 2) → (∀ j, j < k → w.1 30 0 (4 + 6 * t + j) = nI (pgC S j)) → (∀ u, u < 4 → u ≠ t → w.1 30 0 u = nI (L u) ∧ ∀ s, s < L u → w.1 30 0 (4 + 6 * u + s) = nI (P u s)) →
    ∃ w', x_X8_program 49 [] [some (zr 8 0), some (zi (nI t)), some (zi (nI k))] w = x_X8_program 49 [] [some (zr 8 0), some (zi (nI t)), some (zi (nI (p / 2)))] w' ∧ Fr (S1 30 0) w w' ∧ RQ w' 0 0 (pgL t p L) (pgP S t p P) := by
  have h12 := hO.1
  have h2 := hO.2.1
  intro m
  induction m with
  | zero =>
    intro k w hm hX h12' h11 hoth
    have hk : k = p / 2 := by omega
    refine ⟨w, by rw [hk], Fr.rf, fun u hu => ?_, fun u s hu hs => ?_⟩
    · rw [Nat.zero_add]
      unfold pgL
      by_cases e : u = t
      · rw [if_pos e, e, h12']
      · rw [if_neg e]
        exact (hoth u hu e).1
    · rw [Nat.zero_add]
      unfold pgL at hs
      unfold pgP
      by_cases e : u = t
      · rw [if_pos e] at hs ⊢
        rw [if_pos hs, e]
        exact h11 s (by omega)
      · rw [if_neg e] at hs ⊢
        exact (hoth u hu e).2 s hs
  | succ m ih =>
    intro k w hm hX h12' h11 hoth
    have hk : k < p / 2 := by omega
    obtain ⟨k1, k2⟩ := okP_k hO hk
    have k3 := dg_le k2
    have hs0 := hS.2 (2 * k) (by omega)
    have f1 : Fr (S1 30 0) w (wI w 30 0 (4 + 6 * t + k) (nI (pgC S k))) := Fr.rf.wI (by decide)
    obtain ⟨w', a1, a2, a3⟩ := ih (k + 1) _ (by omega) ⟨by rw [(f1 8 0 rfl).1]; exact hX.1, fun i hi => by rw [(f1 31 0 rfl).1]; exact hX.2 i hi⟩ (by rw [jw1, if_neg (by omega)]; exact h12') (fun j hj => by
      rw [jw1]
      by_cases e : j = k
      · rw [if_pos ⟨rfl, rfl, by rw [e]⟩, e]
      · rw [if_neg (by omega)]
        exact h11 j (by omega)) (fun u hu hne => by
      have hLu := (hW u hu).1
      refine ⟨?_, fun s hs => ?_⟩
      · rw [jw1, if_neg (by omega)]
        exact (hoth u hu hne).1
      · rw [jw1, if_neg (by omega)]
        exact (hoth u hu hne).2 s hs)
    refine ⟨w', ?_, f1.tr a2, a3⟩
    have ec : 4 * kd (S (2 * k)) + S (2 * k + 1) - 48 = pgC S k := by unfold pgC; omega
    rw [← a1, e_X8_program_49]
    simp (disch := omega) only [jl, jchk, jcl, h12', jle, jmul, nI_add, hX.2 (2 * k) (by omega), hX.2 (2 * k + 1) (by omega), u_kindOf (show S (2 * k) < 2147483648 by omega), if_pos k1, joc, jsub, ec]
    rw [if_neg (by omega)]
theorem a2_program (x : Int32) : A2 (f_X7_program 0 x) (f_X8_program 0 x) := fun g w wm hG hC hM => by
  obtain ⟨hW, hE, hN, hV⟩ := hG.2.1
  have hRQ := MI_RQ hM
  rcases jsml x 4 with hx | ⟨t, ht, ht31, rfl⟩
  · refine ⟨Int32.ofInt (-1), w, g, wm, ?_, Fr.rf, hG, hC, ?_, Fr.rf, hM⟩
    · rw [e_X7_program, v_isThread_b hx, joc, if_pos (by rfl)]
    · rw [e_X8_program, u_isThread_b hx, joc, if_pos (by rfl)]
  · have c0 : f_X7_isThread (nI t) w = some (nI 1, w) := by rw [v_isThread ht31, if_pos ht]
    have m0 : f_X8_isThread (nI t) wm = some (nI 1, wm) := by rw [u_isThread ht31, if_pos ht]
    obtain ⟨v, h1, h2, h3⟩ := q_faultP hG.1 hC.1.1 hM.1
    rcases h3 with ⟨rfl, hO⟩ | ⟨a, ha, rfl⟩
    · have hW' := pgW hW hO t
      have hN' : CN (pgL t g.1.1 g.2.1.1) (pgP g.1.2 t g.1.1 g.2.1.2.1) := pgN hN ht
      have h12 := hO.1
      have f1 := Fr_copyP 9 0 w
      have r1 := RP_copy (k0 := 9) hC.1.2.1.1 hW
      have e1 := v_copyFromP 9 0 w
      generalize wC (wC w 11 0 0 11 9 0 24) 12 0 0 12 9 0 4 = w1 at f1 r1 e1
      obtain ⟨w2, a1, a2, a3⟩ := v_readP hG.1 hO hW ht (PX_fr f1 rfl rfl hC.1.1) r1
      have f12 : Fr (SPg 9) w w2 := f1.tr a2
      have hC2 : CI w2 g := ⟨CJ_q (f12.sub sub_SPg9) hC.1, CS_fr f12 rfl rfl rfl rfl rfl rfl hC.2⟩
      have fq : Fr SCl w w2 := (f12.sub sub_SPg9).sub sub_SQ
      have cw := v_isWell a3 hW' ht
      have cls : f_X7_program 0 (nI t) w = (if wl (pgP g.1.2 t g.1.1 g.2.1.2.1) t (pgL t g.1.1 g.2.1.1 t) = false then (some ((Int32.ofInt (-5)), w2)) else (oC (f_X7_changeProgramsToDraft 0 w2) fun q6 => (oC (f_X1_clear 0 q6) fun q7 => (oC (f_X2_lengthOf 9 (nI t) q7) fun q8 => (some (q8.1, q8.2)))))) := by
        rw [e_X7_program, c0, joc, if_neg (show ¬ nI 1 = (0 : Int32) by decide), h1, joc, if_pos rfl, e1, joc, a1, joc, cw, joc]
        simp only [j01]
      obtain ⟨m1, b1, b2, b3, b4, b5⟩ := u_aside hG hM
      have fp : Fr (S1 30 0) m1 (wI m1 30 0 t (nI (g.1.1 / 2))) := Fr.rf.wI (by decide)
      obtain ⟨m2, d1, d2, d3⟩ := u_readP (L := g.2.1.1) (P := g.2.1.2.1) hG.1 hO hW ht (g.1.1 / 2) 0 (wI m1 30 0 t (nI (g.1.1 / 2))) rfl ⟨by rw [(fp 8 0 rfl).1]; exact b3.1.1, fun i hi => by rw [(fp 31 0 rfl).1]; exact b3.1.2 i hi⟩ (by rw [jw1, if_pos ⟨rfl, rfl, rfl⟩]) (fun j hj => by omega) (fun u hu hne => ⟨by
        have := b4.1.1 u hu
        rw [Nat.zero_add] at this
        rw [jw1, if_neg (by omega)]
        exact this, fun s hs => by
        have := b4.1.2 u s hu hs
        rw [Nat.zero_add] at this
        rw [jw1, if_neg (by omega)]
        exact this⟩)
      have f30 : Fr (S1 30 0) m1 m2 := fp.tr d2
      have hMP : MP m2 g := MP_fr f30 rfl rfl rfl rfl b3
      have hm3 : MS m2 3 0 g.2.1 := MS_fr f30 rfl b5
      have fm2 : Fr SMd wm m2 := (b2.sub (sub_S1 rfl)).tr (f30.sub (sub_S1 rfl))
      have hlt := d3.1 t ht
      rw [Nat.zero_add, show pgL t g.1.1 g.2.1.1 t = g.1.1 / 2 from if_pos rfl] at hlt
      have mdl : f_X8_program 0 (nI t) wm = (if wl (pgP g.1.2 t g.1.1 g.2.1.2.1) t (pgL t g.1.1 g.2.1.1 t) = false then (oC (f_X8_copies 3 (nI 0) 0 (nI 0) m2) fun q3 => (some ((Int32.ofInt (-5)), q3))) else (oC (f_X8_records 0 3 m2) fun q2 => (some (((wI (wI q2 30 0 28 (nI 0)) 8 0 7 (nI 0)).1 30 0 t), (wI (wI q2 30 0 28 (nI 0)) 8 0 7 (nI 0)))))) := by
        have e7 : m1.1 8 0 7 = nI g.1.1 := b3.1.1
        rw [e_X8_program, m0, joc, if_neg (show ¬ nI 1 = (0 : Int32) by decide)]
        simp only [jl]
        rw [h2, joc, if_pos rfl, b1, joc, e7]
        simp (disch := omega) only [jeq0, Nat.reduceEqDiff, ↓reduceIte, jchk, jcl, jdiv]
        rw [d1, e_X8_program_49]
        simp (disch := omega) only [jl, jchk, jcl, hlt, jle, Nat.le_refl, ↓reduceIte, u_isWell 0 d3 hW' ht, joc, j01]
      cases hw : wl (pgP g.1.2 t g.1.1 g.2.1.2.1) t (pgL t g.1.1 g.2.1.1 t) with
      | false =>
        obtain ⟨m3, j1, j2, j3⟩ := u_back hG hMP hm3
        exact ⟨Int32.ofInt (-5), w2, g, m3, by rw [cls, if_pos hw], fq, hG, hC2, by rw [mdl, if_pos hw, j1, joc], fm2.tr (j2.sub (sub_S1 rfl)), j3⟩
      | true =>
        have hn : ¬ wl (pgP g.1.2 t g.1.1 g.2.1.2.1) t (pgL t g.1.1 g.2.1.1 t) = false := by rw [hw]; decide
        have hE' : WE (pgL t g.1.1 g.2.1.1) (pgP g.1.2 t g.1.1 g.2.1.2.1) := fun u hu => by
          by_cases e : u = t
          · rw [e]; exact hw
          · rw [show pgL t g.1.1 g.2.1.1 u = g.2.1.1 u from if_neg e, ← hE u hu]
            exact wl_congr _ fun i hi => if_neg e
        obtain ⟨w3, i1, i2, i3, i4⟩ := v_change hG hC2 hW' a3
        have f4 : Fr SPd w3 (wI w3 1 0 1 (nI 0)) := Fr.rf.wI (by decide)
        obtain ⟨m3, j1, j2, j3, j4⟩ := u_change hG hMP hW' hm3 d3
        have f5 : Fr SPm (wI m3 30 0 28 (nI 0)) (wI (wI m3 30 0 28 (nI 0)) 8 0 7 (nI 0)) := Fr.rf.wI (by decide)
        have h7 : S07 (wI m3 30 0 28 (nI 0)) (wI (wI m3 30 0 28 (nI 0)) 8 0 7 (nI 0)) := ⟨fun j hj => by rw [jw1, if_neg (fun z => hj z.2.2)], rfl⟩
        have hGc := chG_GI hG hW' hE' hN'
        refine ⟨nI (g.1.1 / 2), wI w3 1 0 1 (nI 0), ((0, g.1.2), (chG g (pgL t g.1.1 g.2.1.1) (pgP g.1.2 t g.1.1 g.2.1.2.1)).2), wI (wI m3 30 0 28 (nI 0)) 8 0 7 (nI 0), ?_, (fq.tr i2).tr (f4.sub sub_SPd), ⟨⟨Nat.zero_le _, fun i hi => absurd hi (Nat.not_lt_zero _)⟩, hGc.2⟩, ⟨CJ_pad f4 (p' := 0) (S' := g.1.2) ⟨by rw [jw1, if_pos ⟨rfl, rfl, rfl⟩], fun i hi => absurd hi (Nat.not_lt_zero _)⟩ i3.1, CS_fr f4 rfl rfl rfl rfl rfl rfl i3.2⟩, ?_, (fm2.tr j2).tr (f5.sub sub_SPm), MI_pad f5 h7 (p' := 0) (S' := g.1.2) ⟨by rw [jw1, if_pos ⟨rfl, rfl, rfl⟩], fun i hi => absurd hi (Nat.not_lt_zero _)⟩ j3⟩
        · rw [cls, if_neg hn, i1, joc, e_X1_clear, joc]
          simp only [jl]
          rw [v_lengthOf (f4.RP rfl rfl i4) ht, joc]
          rw [show pgL t g.1.1 g.2.1.1 t = g.1.1 / 2 from if_pos rfl]
        · rw [mdl, if_neg hn, j1, joc]
          have : (wI (wI m3 30 0 28 (nI 0)) 8 0 7 (nI 0)).1 30 0 t = nI (g.1.1 / 2) := by
            rw [jw1, if_neg (by omega), jw1, if_neg (by omega), j4]
            exact hlt
          rw [this]
    · have hne : ¬ nI a = Int32.ofInt (-6) := by rw [jm6 (by omega)]; exact id
      refine ⟨Int32.ofInt (-3), w, g, wm, ?_, Fr.rf, hG, hC, ?_, Fr.rf, hM⟩
      · rw [e_X7_program, c0, joc, if_neg (show ¬ nI 1 = (0 : Int32) by decide), h1, joc, if_neg hne]
      · rw [e_X8_program, m0, joc, if_neg (show ¬ nI 1 = (0 : Int32) by decide)]
        simp only [jl]
        rw [h2, joc, if_neg hne]
end PM'
