/-! HOW MANY ORDERS: the reference. -/
section N7
variable {L : Nat → Nat} {P : Nat → Nat → Nat} {R : Nat → Nat} {n : Nat}
def cx (P : Nat → Nat → Nat) (R : Nat → Nat) (s : Nat → Nat) (k j : Nat) : Bool := decide (wh R k = s (R k)) && alT P R s k j
theorem u_comes (hW : WP L P) (hV : VR L P n R) {w : Wd} (hU : RU w L P n R) {c k : Nat} (hc : c < 2401) (hk : k < n) : f_X8_comesNext 0 (nI c) (nI k) w = some (nI (if cnB P R (d7 c) k = true then 1 else 0), w) := by
  have hn := hV.1
  have zb01 : ∀ (b : Bool) (f : Option (Int32 × Wd)), zb (nI (if b = true then 1 else 0)) f = f := fun b f => by
    cases b
    · exact jzb0
    · exact jzb1
  have hwk : ∀ j, j < n → wh R j < 6 := fun j hj => by
    have := VR_wh hV hj
    have := (hW _ (hV.2.1 j hj)).1
    omega
  have lp : ∀ (m j : Nat), m + j = k → x_X8_comesNext 28 [] [some (zr 8 0), some (zi (nI c)), some (zi (nI k)), some (zi (nI (if cx P R (d7 c) k j = true then 1 else 0))), some (zi (nI j))] w = some (nI (if cx P R (d7 c) k k = true then 1 else 0), w) := by
    intro m
    induction m with
    | zero =>
      intro j hj
      rw [e_X8_comesNext_28]
      simp (disch := omega) only [jle, zb01]
      rw [if_pos (by omega), show j = k by omega]
    | succ m ih =>
      intro j hj
      have hjn : j < n := by omega
      have hd := d7_lt c (R j)
      have e1 : cx P R (d7 c) k (j + 1) = (cx P R (d7 c) k j && (!td P R j k || decide (wh R j < d7 c (R j)))) := by
        unfold cx
        rw [alT, Bool.and_assoc]
      have hwj := hwk j hjn
      rw [e_X8_comesNext_28]
      simp (disch := omega) only [jl, jle, zb01, j01, u_isTied hW hV hU hjn hk, joc, jchk, jcl, hU.2.1.2 j hjn, hU.2.2 j hjn, u_done (show c < 2147483648 by omega) (hV.2.1 j hjn), nI_add]
      rw [if_neg (by omega)]
      cases hf : cx P R (d7 c) k j with
      | false =>
        rw [if_pos rfl]
        have : cx P R (d7 c) k k = false := by
          cases h : cx P R (d7 c) k k with
          | false => rfl
          | true =>
            have : cx P R (d7 c) k j = true := by
              unfold cx at h ⊢
              rw [Bool.and_eq_true] at h ⊢
              exact ⟨h.1, (alT_iff j).mpr fun i hi => (alT_iff k).mp h.2 i (by omega)⟩
            rw [this] at hf
            cases hf
        rw [this]
      | true =>
        rw [if_neg (by decide)]
        rw [hf, Bool.true_and] at e1
        have hi := ih (j + 1) (by omega)
        rw [e1] at hi
        cases ht : td P R j k with
        | false =>
          rw [ht] at hi
          rw [if_pos rfl]
          exact hi
        | true =>
          rw [ht] at hi
          rw [if_neg (by decide)]
          by_cases hlt : wh R j < d7 c (R j)
          · rw [if_neg (by omega)]
            simp only [hlt, decide_true, Bool.or_true] at hi
            exact hi
          · rw [if_pos (by omega)]
            simp only [hlt, decide_false, Bool.or_false] at hi
            exact hi
  have hd := d7_lt c (R k)
  have hwj := hwk k hk
  have h := lp k 0 rfl
  have e : cx P R (d7 c) k k = cnB P R (d7 c) k := rfl
  rw [e] at h
  rw [← h, e_X8_comesNext]
  simp (disch := omega) only [jl, jchk, jcl, hU.2.1.2 k hk, hU.2.2 k hk, u_done (show c < 2147483648 by omega) (hV.2.1 k hk), joc, jeq]
  unfold cx
  rw [alT, Bool.and_true]
  by_cases hw : wh R k = d7 c (R k)
  · rw [if_pos hw]; simp [hw]
  · rw [if_neg hw]; simp [hw]
def WO7 (P : Nat → Nat → Nat) (R : Nat → Nat) (n : Nat) : Nat → Nat := zW g7 (fun i t => goM P R n (d7 i) t)
def S33 : Nat → Nat → Bool := S1 33 0
/-- what has come to a stand, while one is gone through by its steps -/
def oBd (P : Nat → Nat → Nat) (R : Nat → Nat) (n c k x : Nat) : Nat := zWp g7 (fun i t => goM P R n (d7 i) t) c 0 x + q4 fun t => if x = c + g7 t ∧ mgB P R (d7 c) t k = true then WO7 P R n c else 0
theorem oBd_0 (c x : Nat) : oBd P R n c 0 x = zWp g7 (fun i t => goM P R n (d7 i) t) c 0 x := by
  unfold oBd
  have : (q4 fun t => if x = c + g7 t ∧ mgB P R (d7 c) t 0 = true then WO7 P R n c else 0) = q4 fun _ => 0 := q4_congr fun t ht => if_neg (fun z => by cases z.2)
  rw [this]
  rfl
theorem oBd_n (c x : Nat) : oBd P R n c n x = zWp g7 (fun i t => goM P R n (d7 i) t) (c + 1) 0 x := by
  have st : ∀ t, t < 4 → zWp g7 (fun i t => goM P R n (d7 i) t) c (t + 1) x = zWp g7 (fun i t => goM P R n (d7 i) t) c t x + if x = c + g7 t ∧ goM P R n (d7 c) t = true then zW g7 (fun i t => goM P R n (d7 i) t) c else 0 := fun t ht => zWp_st ht (g7_pos t).1 x
  rw [← zWp_4, st 3 (by decide), st 2 (by decide), st 1 (by decide), st 0 (by decide)]
  unfold oBd q4
  show _ + (_ + _ + _ + _) = _
  simp only [Nat.add_assoc]
  rfl
theorem oBd_st {c k x : Nat} (hk : R k < 4) (hc : cnB P R (d7 c) k = true) : oBd P R n c (k + 1) x = oBd P R n c k x + if x = c + g7 (R k) then WO7 P R n c else 0 := by
  unfold oBd
  rw [Nat.add_assoc]
  congr 1
  refine q4_add hk ?_ fun t ht hne => ?_
  · have h1 : mgB P R (d7 c) (R k) (k + 1) = true := (mgB_iff _).mpr ⟨k, by omega, rfl, hc⟩
    have h2 : mgB P R (d7 c) (R k) k = false := by
      cases h : mgB P R (d7 c) (R k) k with
      | false => rfl
      | true =>
        obtain ⟨j, j1, j2, j3⟩ := (mgB_iff _).mp h
        have : j = k := wh_inj j2 (by rw [cnB_wh j3, cnB_wh hc, j2])
        omega
    show (if x = c + g7 (R k) ∧ mgB P R (d7 c) (R k) (k + 1) = true then WO7 P R n c else 0) = (if x = c + g7 (R k) ∧ mgB P R (d7 c) (R k) k = true then WO7 P R n c else 0) + _
    rw [h1, h2]
    by_cases hx : x = c + g7 (R k) <;> simp [hx]
  · have : mgB P R (d7 c) t (k + 1) = mgB P R (d7 c) t k := by
      rw [mgB]
      simp [show ¬ R k = t from fun e => hne e.symm]
    rw [this]
theorem oBd_no {c k x : Nat} (hc : cnB P R (d7 c) k = false) : oBd P R n c (k + 1) x = oBd P R n c k x := by
  unfold oBd
  congr 1
  refine q4_congr fun t ht => ?_
  have : mgB P R (d7 c) t (k + 1) = mgB P R (d7 c) t k := by
    rw [mgB, hc]
    simp
  rw [this]
theorem oBd_self (c k : Nat) : oBd P R n c k c = WO7 P R n c := by
  unfold oBd
  rw [zWp_self]
  have : (q4 fun t => if c = c + g7 t ∧ mgB P R (d7 c) t k = true then WO7 P R n c else 0) = q4 fun _ => 0 := q4_congr fun t ht => if_neg (by have := (g7_pos t).1; omega)
  rw [this]
  rfl
theorem u_al_in (hW : WP L P) (hV : VR L P n R) {c : Nat} (hc : c < 2401) (hz : WO7 P R n c ≠ 0) {p : Nat} : ∀ (m k : Nat) (w : Wd), m + k = n → RU w L P n R → (∀ x, x < 2401 → w.2 33 0 x = lN (oBd P R n c k x)) →
    ∃ w', x_X8_alikeRuns 46 [] [some (zr 8 0), some (zi (nI p)), some (zi (nI c)), some (zi (nI k))] w = x_X8_alikeRuns 37 [] [some (zr 8 0), some (zi (nI p)), some (zi (nI (c + 1))), none] w' ∧ Fr S33 w w' ∧ w'.1 = w.1 ∧ ∀ x, x < 2401 → w'.2 33 0 x = lN (zWp g7 (fun i t => goM P R n (d7 i) t) (c + 1) 0 x) := by
  have hn := hV.1
  have hG : GL (goM P R n) L := mgB_GL hW hV
  have hs : WO7 P R n c < 281474976710657 := gn_small ds7 hG hc
  intro m
  induction m with
  | zero =>
    intro k w hm hU hA
    have hkn : k = n := by omega
    refine ⟨w, ?_, Fr.rf, rfl, fun x hx => by rw [hA x hx, hkn, oBd_n]⟩
    rw [e_X8_alikeRuns_46, hU.2.1.1]
    simp (disch := omega) only [jle, jl, nI_add]
    rw [if_pos (by omega)]
  | succ m ih =>
    intro k w hm hU hA
    have hk : k < n := by omega
    have hRk := hV.2.1 k hk
    have e1 := hA c hc
    rw [oBd_self] at e1
    have hgp := (g7_pos (R k))
    rw [e_X8_alikeRuns_46, hU.2.1.1]
    simp (disch := omega) only [jle, jl, jlL, jchk, jcl, e1, lcmpP, hz, ↓reduceIte, u_comes hW hV hU hc hk, joc, j01, hU.2.1.2 k hk, u_figure hRk, nI_add]
    rw [if_neg (by omega)]
    cases hcn : cnB P R (d7 c) k with
    | false =>
      rw [if_pos rfl]
      exact ih (k + 1) w (by omega) hU (fun x hx => by rw [hA x hx, oBd_no hcn])
    | true =>
      rw [if_neg (by decide)]
      have hmg : goM P R n (d7 c) (R k) = true := (mgB_iff n).mpr ⟨k, hk, rfl, hcn⟩
      have hlt := hG _ (R k) hRk hmg
      have hnx := (ds7.2.2.2 c (R k) hc hRk (by omega)).1
      have e2 := hA (c + g7 (R k)) hnx
      simp (disch := omega) only [jchk, jcl, e2, lN_add]
      obtain ⟨w', h1, h2, h3, h4⟩ := ih (k + 1) (wL w 33 0 (c + g7 (R k)) (lN (oBd P R n c k (c + g7 (R k)) + WO7 P R n c))) (by omega) (RU_fr (S := S33) (Fr.rf.wL (by decide)) rfl rfl rfl rfl hU) (fun x hx => by
        rw [jl2, oBd_st hRk hcn]
        by_cases e : x = c + g7 (R k)
        · rw [if_pos ⟨rfl, rfl, e⟩, if_pos e, e]
        · rw [if_neg (fun z => e z.2.2), if_neg e, Nat.add_zero]
          exact hA x hx)
      exact ⟨w', h1, (Fr.rf.wL (by decide)).tr h2, h3, h4⟩
theorem u_al_out (hW : WP L P) (hV : VR L P n R) {p : Nat} : ∀ (m c : Nat) (w : Wd), m + c = 2401 → RU w L P n R → (∀ x, x < 2401 → w.2 33 0 x = lN (zWp g7 (fun i t => goM P R n (d7 i) t) c 0 x)) →
    ∃ w', x_X8_alikeRuns 37 [] [some (zr 8 0), some (zi (nI p)), some (zi (nI c)), none] w = x_X8_alikeRuns 113 [] [some (zr 8 0), some (zi (nI p)), some (zi (nI 0)), none] w' ∧ Fr S33 w w' ∧ w'.1 = w.1 ∧ ∀ x, x < 2401 → w'.2 33 0 x = lN (WO7 P R n x) := by
  have hn := hV.1
  have hG : GL (goM P R n) L := mgB_GL hW hV
  intro m
  induction m with
  | zero =>
    intro c w hm hU hA
    have : c = 2401 := by omega
    subst this
    refine ⟨w, ?_, Fr.rf, rfl, fun x hx => by rw [hA x hx, zWp_end hx]; rfl⟩
    rw [e_X8_alikeRuns_37]
    simp (disch := omega) only [jle, jl]
    rw [if_pos (by omega)]
  | succ m ih =>
    intro c w hm hU hA
    have hc : c < 2401 := by omega
    have hs : WO7 P R n c < 281474976710657 := gn_small ds7 hG hc
    have e0 : x_X8_alikeRuns 37 [] [some (zr 8 0), some (zi (nI p)), some (zi (nI c)), none] w = x_X8_alikeRuns 46 [] [some (zr 8 0), some (zi (nI p)), some (zi (nI c)), some (zi (nI 0))] w := by
      rw [e_X8_alikeRuns_37]
      simp (disch := omega) only [jle, jl]
      rw [if_neg (by omega)]
    rw [e0]
    by_cases hz : WO7 P R n c = 0
    · have hz' : zW g7 (fun i t => goM P R n (d7 i) t) c = 0 := hz
      obtain ⟨w', h1, h2, h3, h4⟩ := ih (c + 1) w (by omega) hU (fun x hx => by rw [zWp_skip hz']; exact hA x hx)
      refine ⟨w', ?_, h2, h3, h4⟩
      have e1 := hA c hc
      rw [zWp_self, hz'] at e1
      rw [← h1, e_X8_alikeRuns_46, hU.2.1.1]
      simp (disch := omega) only [jle, jl, jlL, jchk, jcl, e1, lcmpP, ↓reduceIte, nI_add, ite_self]
    · obtain ⟨w1, a1, a2, a3, a4⟩ := u_al_in hW hV hc hz (p := p) n 0 w rfl hU (fun x hx => by rw [oBd_0]; exact hA x hx)
      obtain ⟨w', h1, h2, h3, h4⟩ := ih (c + 1) w1 (by omega) (RU_fr a2 rfl rfl rfl rfl hU) a4
      exact ⟨w', a1.trans h1, a2.tr h2, h3.trans a3, h4⟩
theorem u_al_end (hW : WP L P) (hV : VR L P n R) {w : Wd} (hU : RU w L P n R) (hA : ∀ x, x < 2401 → w.2 33 0 x = lN (WO7 P R n x)) : ∀ (m k : Nat), m + k = n → x_X8_alikeRuns 113 [] [some (zr 8 0), some (zi (nI (stN g7 R k))), some (zi (nI k)), none] w = some (lN (WO7 P R n (stN g7 R n)), w) := by
  have hn := hV.1
  intro m
  induction m with
  | zero =>
    intro k hm
    have hkn : k = n := by omega
    have hs := (st_all hW hV.2.1 hV.2.2 n (Nat.le_refl _)).1
    rw [hkn, e_X8_alikeRuns_113, hU.2.1.1]
    simp (disch := omega) only [jle, Nat.le_refl, ↓reduceIte, jchk, jcl, hA _ hs]
  | succ m ih =>
    intro k hm
    have hk : k < n := by omega
    rw [← ih (k + 1) (by omega), e_X8_alikeRuns_113, hU.2.1.1]
    simp (disch := omega) only [jle, jchk, jcl, hU.2.1.2 k hk, u_figure (hV.2.1 k hk), joc, nI_add, jl]
    rw [if_neg (by omega)]
    rfl
theorem u_al_0 : ∀ (m c : Nat) (w : Wd), m + c = 2401 → (∀ x, x < c → w.2 33 0 x = lN 0) →
    ∃ w', x_X8_alikeRuns 6 [] [some (zr 8 0), some (zi (nI c)), none, none] w = x_X8_alikeRuns 37 [] [some (zr 8 0), some (zi (nI 0)), some (zi (nI 0)), none] w' ∧ Fr S33 w w' ∧ ∀ x, x < 2401 → w'.2 33 0 x = lN (if x = 0 then 1 else 0) := by
  intro m
  induction m with
  | zero =>
    intro c w hc hA
    refine ⟨wL w 33 0 0 (lN 1), ?_, Fr.rf.wL (by decide), fun x hx => ?_⟩
    · rw [e_X8_alikeRuns_6]
      simp (disch := omega) only [jl, jlL, jle, jchk, jcl]
      rw [if_pos (by omega)]
    · rw [jl2]
      by_cases h0 : x = 0
      · rw [if_pos ⟨rfl, rfl, h0⟩, if_pos h0]
      · rw [if_neg (fun z => h0 z.2.2), if_neg h0]
        exact hA x (by omega)
  | succ m ih =>
    intro c w hc hA
    obtain ⟨w', h1, h2, h3⟩ := ih (c + 1) (wL w 33 0 c (lN 0)) (by omega) (fun x hx => by
      rw [jl2]
      by_cases h0 : x = c
      · rw [if_pos ⟨rfl, rfl, h0⟩]
      · rw [if_neg (fun z => h0 z.2.2)]
        exact hA x (by omega))
    refine ⟨w', ?_, (Fr.rf.wL (by decide)).tr h2, h3⟩
    rw [← h1, e_X8_alikeRuns_6]
    simp (disch := omega) only [jl, jlL, jle, jchk, jcl, nI_add]
    rw [if_neg (by omega)]
def SAl : Nat → Nat → Bool := S2 STk S33
theorem u_alikeRuns (hW : WP L P) (hV : VR L P n R) {w : Wd} (hRQ : RQ w 0 0 L P) (hK : KQ w n R) : ∃ w', f_X8_alikeRuns 0 w = some (lN (WO8 P R n (stN g8 R n)), w') ∧ Fr SAl w w' ∧ S18 w w' := by
  have hG : GL (goM P R n) L := mgB_GL hW hV
  obtain ⟨w1, a1, a2, a3, a4, a5⟩ := u_takesKept hW hV.1 hV.2.1 hRQ hK hV.2.2
  have hU : RU w1 L P n R := ⟨a2.RQ rfl hRQ, a4, a5⟩
  obtain ⟨w2, b1, b2, b3⟩ := u_al_0 2401 0 w1 rfl (fun x hx => by omega)
  have hU2 := RU_fr b2 rfl rfl rfl rfl hU
  obtain ⟨w3, c1, c2, c3, c4⟩ := u_al_out hW hV (p := 0) 2401 0 w2 rfl hU2 (fun x hx => by rw [zWp_0]; exact b3 x hx)
  have hU3 := RU_fr c2 rfl rfl rfl rfl hU2
  have hend := u_al_end hW hV hU3 c4 n 0 rfl
  obtain ⟨s1, s2, s3, s4⟩ := st_all hW hV.2.1 hV.2.2 n (Nat.le_refl _)
  have e : WO7 P R n (stN g7 R n) = WO8 P R n (stN g8 R n) := by
    rw [← s4]
    exact (gW_eN hG _ s1).symm
  refine ⟨w3, ?_, (a2.mono fun t i h => S2_l h).tr ((b2.tr c2).mono fun t i h => S2_r h), ⟨fun j hj => ?_, ?_⟩⟩
  · rw [← e, ← hend, e_X8_alikeRuns, a1, joc]
    simp only [jl]
    rw [b1, c1]
    rfl
  · rw [(c2 8 0 rfl).1, (b2 8 0 rfl).1]
    exact a3.1 j hj
  · rw [(c2 8 0 rfl).2, (b2 8 0 rfl).2]
    exact a3.2
theorem u_chain (hW : WP L P) (hV : VR L P n R) {w : Wd} (hRQ : RQ w 0 0 L P) (hK : KQ w n R) : ∃ w', f_X8_chain 0 w = some (nI (mxA (ch P R) n), w') ∧ Fr (S2 STk S39) w w' ∧ S18 w w' := by
  obtain ⟨w1, a1, a2, a3, a4, a5⟩ := u_takesKept hW hV.1 hV.2.1 hRQ hK hV.2.2
  have hU : RU w1 L P n R := ⟨a2.RQ rfl hRQ, a4, a5⟩
  obtain ⟨w2, b1, b2⟩ := u_chain_lp hW hV n 0 w1 rfl hU (fun i hi => by omega)
  refine ⟨w2, ?_, (a2.mono fun t i h => S2_l h).tr (b2.mono fun t i h => S2_r h), ⟨fun j hj => ?_, ?_⟩⟩
  · rw [← b1, e_X8_chain, a1, joc]
    simp only [jl]
    rfl
  · rw [(b2 8 0 rfl).1]
    exact a3.1 j hj
  · rw [(b2 8 0 rfl).2]
    exact a3.2
end N7
