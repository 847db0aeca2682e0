/-! THE LEAST RUN, and how many orders: the class. -/
section L8
variable {L : Nat → Nat} {P : Nat → Nat → Nat} {R : Nat → Nat} {n : Nat}
theorem mgB_GL (hW : WP L P) (hV : VR L P n R) : GL (fun s t => mgB P R s t n) L := fun s t ht h => by
  have h1 := mgB_lt h
  have h2 := VR_dn hW hV (Nat.le_refl n) ht
  exact ⟨by omega, (hW t ht).1⟩
theorem v_mayGo (hW : WP L P) (hV : VR L P n R) {w : Wd} (hL : LO w P R n) {c t : Nat} (hc : c < 4096) (ht : t < 4) : f_X4_mayGo 0 (nI c) (nI t) w = some (nI (if mgB P R (d8 c) t n = true then 1 else 0), w) := by
  have hd := d8_lt c t
  have hdt := VR_dn hW hV (Nat.le_refl n) ht
  have hLt := (hW t ht).1
  rw [e_X4_mayGo, v_doneBy hc ht]
  simp (disch := omega) only [joc, jchk, jcl, hL.1 t ht, jlt, jl, jzb0, jmul, nI_add]
  by_cases hlt : d8 c t < dn R t n
  · rw [if_pos hlt]
    obtain ⟨i, i1, i2, i3⟩ := ix_ex n hlt
    have hmg : mgB P R (d8 c) t n = alT P R (d8 c) i i := by
      have := mgB_ix (P := P) (s := d8 c) i1 (by rw [i3, i2])
      rw [i2] at this
      exact this
    have hRj : ∀ j, j < i → R j < 4 := fun j hj => hV.2.1 j (by omega)
    have st : ∀ u, u < 4 → x_X4_mayGo 29 [] [some (zr 4 0), some (zi (nI c)), none, none, some (zi (nI (t * 6 + d8 c t))), some (zi (nI u))] w = if nd P R i u ≤ d8 c u then x_X4_mayGo 29 [] [some (zr 4 0), some (zi (nI c)), none, none, some (zi (nI (t * 6 + d8 c t))), some (zi (nI (u + 1)))] w else some (nI 0, w) := fun u hu => by
      have hdu := d8_lt c u
      have hnd := hL.2.1 i i1 u hu
      rw [i2, i3] at hnd
      have hn1 : nd P R i u ≤ dn R u i := nd_le
      have hn2 := VR_dn hW hV (show i ≤ n by omega) hu
      have hLu := (hW u hu).1
      rw [e_X4_mayGo_29]
      simp (disch := omega) only [jl, jle, v_doneBy hc hu, joc, jmul, nI_add, jchk, jcl, hnd, jzb0]
      rw [if_neg (by omega)]
    rw [st 0 (by decide), st 1 (by decide), st 2 (by decide), st 3 (by decide), e_X4_mayGo_29]
    simp (disch := omega) only [jl, jle, Nat.reduceAdd, Nat.le_refl, ↓reduceIte, jzb1, hmg]
    cases ha : alT P R (d8 c) i i with
    | true =>
      have h := (alT_nd hRj).mp ha
      rw [if_pos (h 0 (by decide)), if_pos (h 1 (by decide)), if_pos (h 2 (by decide)), if_pos (h 3 (by decide)), if_pos rfl]
    | false =>
      have hne : ¬ ∀ u, u < 4 → nd P R i u ≤ d8 c u := fun h => by
        rw [(alT_nd hRj).mpr h] at ha
        cases ha
      rw [if_neg (show ¬ false = true by decide)]
      by_cases h0 : nd P R i 0 ≤ d8 c 0
      · rw [if_pos h0]
        by_cases h1 : nd P R i 1 ≤ d8 c 1
        · rw [if_pos h1]
          by_cases h2 : nd P R i 2 ≤ d8 c 2
          · rw [if_pos h2]
            by_cases h3 : nd P R i 3 ≤ d8 c 3
            · exact absurd (fun u hu => by rcases four hu with rfl | rfl | rfl | rfl <;> assumption) hne
            · rw [if_neg h3]
          · rw [if_neg h2]
        · rw [if_neg h1]
      · rw [if_neg h0]
  · rw [if_neg hlt]
    have : mgB P R (d8 c) t n = false := by
      cases h : mgB P R (d8 c) t n with
      | false => rfl
      | true => exact absurd (mgB_lt h) hlt
    rw [this]
    rfl
theorem v_leastMay (hW : WP L P) (hV : VR L P n R) {w : Wd} (hL : LO w P R n) {c : Nat} (hc : c < 4096) : f_X4_leastThatMayGo 0 (nI c) w = some (oT (ltR P R n (d8 c)), w) := by
  have st : ∀ t, t < 4 → x_X4_leastThatMayGo 2 [] [some (zr 4 0), some (zi (nI c)), some (zi (nI t))] w = if mgB P R (d8 c) t n = true then some (nI t, w) else x_X4_leastThatMayGo 2 [] [some (zr 4 0), some (zi (nI c)), some (zi (nI (t + 1)))] w := fun t ht => by
    rw [e_X4_leastThatMayGo_2]
    simp (disch := omega) only [jl, jle, v_mayGo hW hV hL hc ht, joc, j01, nI_add]
    rw [if_neg (by omega)]
    cases mgB P R (d8 c) t n <;> simp
  rw [e_X4_leastThatMayGo]
  simp only [jl]
  rw [st 0 (by decide), st 1 (by decide), st 2 (by decide), st 3 (by decide), e_X4_leastThatMayGo_2]
  simp (disch := omega) only [jl, jle, Nat.reduceAdd, Nat.le_refl, ↓reduceIte]
  unfold ltR
  cases mgB P R (d8 c) 0 n <;> cases mgB P R (d8 c) 1 n <;> cases mgB P R (d8 c) 2 n <;> cases mgB P R (d8 c) 3 n <;> rfl
theorem LR_ok (hW : WP L P) (hV : VR L P n R) {i : Nat} (hi : i < n) : LR P R n i < 4 ∧ dn (LR P R n) (LR P R n i) i < 6 := by
  obtain ⟨h1, h2, h3⟩ := lp_all (P := P) hV.2.1 i (by omega)
  have hlt := h3 hi
  obtain ⟨g1, -⟩ := ltR_mg (P := P) (R := R) (n := n) hlt
  have g2 := mgB_lt g1
  have g3 := VR_dn hW hV (Nat.le_refl n) hlt
  have g4 := (hW _ hlt).1
  refine ⟨hlt, ?_⟩
  rw [← lpS_dn]
  show lpS P R n i (ltR P R n (lpS P R n i)) < 6
  have g3' : dn R (ltR P R n (lpS P R n i)) n ≤ L (ltR P R n (lpS P R n i)) := g3
  have g4' : L (ltR P R n (lpS P R n i)) ≤ 6 := g4
  omega
theorem LR_st8 (hW : WP L P) (hV : VR L P n R) {i : Nat} (hi : i ≤ n) : stN g8 (LR P R n) i < 4096 ∧ d8 (stN g8 (LR P R n) i) = lpS P R n i := by
  obtain ⟨h1, h2⟩ := st_gen ds8 (Q := LR P R n) i (fun j hj => LR_ok hW hV (by omega))
  refine ⟨h1, ?_⟩
  funext u
  by_cases hu : u < 4
  · rw [h2 u hu, lpS_dn]
  · rw [lpS_dn, dn_big (n := n) (fun j hj => (LR_ok hW hV hj).1) (by omega) i hi]
    unfold d8
    rw [if_neg hu]
theorem d8_num {c : Nat} (hc : c < 4096) : c = d8 c 0 * 512 + d8 c 1 * 64 + d8 c 2 * 8 + d8 c 3 := by
  rw [d8_0, d8_1, d8_2, d8_3, Nat.div_one]
  omega
theorem LR_end (hW : WP L P) (hV : VR L P n R) {i : Nat} (hi : i ≤ n) : (stN g8 (LR P R n) i = stN g8 R n) ↔ i = n := by
  obtain ⟨h1, h2⟩ := LR_st8 hW hV hi
  obtain ⟨s1, s2, s3, s4⟩ := st_all hW hV.2.1 hV.2.2 n (Nat.le_refl _)
  have hE := eN_lt40 s1
  have e8 : d8 (stN g8 R n) = sd R n := by rw [← s4, eN_dig s1, s2]
  rw [s4] at hE
  obtain ⟨q1, q2, -⟩ := lp_all (P := P) hV.2.1 i hi
  have hl : len4 (sd R n) = n := dn_len hV.2.1 n (Nat.le_refl _)
  constructor
  · intro h
    rw [← h2, h, e8, hl] at q2
    exact q2.symm
  · intro h
    subst h
    have hd : ∀ u, u < 4 → lpS P R i i u = dn R u i := by
      have a0 := q1 0 (by decide)
      have a1 := q1 1 (by decide)
      have a2 := q1 2 (by decide)
      have a3 := q1 3 (by decide)
      unfold len4 sd at hl
      unfold len4 at q2
      intro u hu
      rcases four hu with rfl | rfl | rfl | rfl <;> omega
    rw [d8_num h1, d8_num hE, h2, e8, hd 0 (by decide), hd 1 (by decide), hd 2 (by decide), hd 3 (by decide)]
    rfl
theorem v_writeLeast_lp (hW : WP L P) (hV : VR L P n R) {k : Nat} : ∀ (m i : Nat) (w : Wd), m + i = n → LO w P R n → RR w k i (LR P R n) →
    ∃ w', x_X4_writeLeast 8 [] [some (zr 4 0), some (zr 3 k), some (zi (nI (stN g8 (LR P R n) i))), some (zi (nI i)), none] w = some w' ∧ Fr (SRg k) w w' ∧ RR w' k n (LR P R n) := by
  have hn := hV.1
  obtain ⟨s1, s2, s3, s4⟩ := st_all hW hV.2.1 hV.2.2 n (Nat.le_refl _)
  have hE := eN_lt40 s1
  rw [s4] at hE
  intro m
  induction m with
  | zero =>
    intro i w hm hL hRR
    have hin : i = n := by omega
    refine ⟨w, ?_, Fr.rf, (by cases hin; exact hRR)⟩
    have h1 := (LR_st8 hW hV (i := i) (by omega)).1
    rw [e_X4_writeLeast_8, hL.2.2.2.2]
    simp (disch := omega) only [jl, jle, jeq]
    rw [if_pos ((LR_end hW hV (by omega)).mpr hin), ite_self]
  | succ m ih =>
    intro i w hm hL hRR
    have hi : i < n := by omega
    obtain ⟨h1, h2⟩ := LR_st8 hW hV (i := i) (by omega)
    obtain ⟨h3, h4⟩ := LR_st8 hW hV (i := i + 1) (by omega)
    have hlt := (LR_ok hW hV hi).1
    have hlt' : ltR P R n (lpS P R n i) < 4 := hlt
    have hno : ¬ stN g8 (LR P R n) i = stN g8 R n := fun h => by
      have := (LR_end hW hV (by omega)).mp h
      omega
    have f3 : SRg k 14 0 = false := by unfold SRg S2 S1; rfl
    obtain ⟨w1, a1, a2, a3⟩ := v_append (x := LR P R n i) hRR (by omega) rfl
    have hL1 : LO w1 P R n := ⟨fun t ht => by rw [(a2 14 0 rfl).1]; exact hL.1 t ht, fun j hj u hu => by rw [(a2 15 0 rfl).1]; exact hL.2.1 j hj u hu, fun j hj => by rw [(a2 16 0 rfl).1]; exact hL.2.2.1 j hj, by rw [(a2 4 0 rfl).1]; exact hL.2.2.2.1, by rw [(a2 4 0 rfl).1]; exact hL.2.2.2.2⟩
    obtain ⟨w', b1, b2, b3⟩ := ih (i + 1) w1 (by omega) hL1 a3
    refine ⟨w', ?_, a2.tr b2, b3⟩
    have hlm := v_leastMay hW hV hL h1
    rw [h2, show oT (ltR P R n (lpS P R n i)) = nI (LR P R n i) from if_pos hlt'] at hlm
    rw [← b1, e_X4_writeLeast_8, hL.2.2.2.2]
    simp (disch := omega) only [jl, jle, jeq, hlm, joc, jm6, ↓reduceIte, a1, v_standAfter h1 hlt, nI_add]
    rw [if_neg (by omega), if_neg hno, show (stN g8 (LR P R n) i + 2 ^ (9 - 3 * LR P R n i)) % 4096 = stN g8 (LR P R n) (i + 1) from Nat.mod_eq_of_lt h3]
theorem v_writeLeast (hW : WP L P) (hV : VR L P n R) {k : Nat} {w : Wd} (hL : LO w P R n) : ∃ w', f_X4_writeLeast 0 k w = some w' ∧ Fr (SRg k) w w' ∧ RR w' k n (LR P R n) := by
  have f1 : Fr (SRg k) w (wI w 3 k 1 (nI 0)) := Fr.rf.wI (SRg_3 k)
  have hL1 : LO (wI w 3 k 1 (nI 0)) P R n := ⟨fun t ht => by rw [(f1 14 0 rfl).1]; exact hL.1 t ht, fun j hj u hu => by rw [(f1 15 0 rfl).1]; exact hL.2.1 j hj u hu, fun j hj => by rw [(f1 16 0 rfl).1]; exact hL.2.2.1 j hj, by rw [(f1 4 0 rfl).1]; exact hL.2.2.2.1, by rw [(f1 4 0 rfl).1]; exact hL.2.2.2.2⟩
  obtain ⟨w', h1, h2, h3⟩ := v_writeLeast_lp hW hV n 0 _ rfl hL1 (k := k) ⟨by rw [jw1, if_pos ⟨rfl, rfl, rfl⟩], fun i hi => by omega⟩
  refine ⟨w', ?_, f1.tr h2, h3⟩
  rw [← h1, e_X4_writeLeast, e_X3_clear, joc]
  simp only [jl]
  rfl
/-! how many orders -/
def goM (P : Nat → Nat → Nat) (R : Nat → Nat) (n : Nat) (s : Nat → Nat) (t : Nat) : Bool := mgB P R s t n
def WO8 (P : Nat → Nat → Nat) (R : Nat → Nat) (n : Nat) : Nat → Nat := zW g8 (fun i t => goM P R n (d8 i) t)
def S170 : Nat → Nat → Bool := S1 17 0
theorem LO_17 {w w' : Wd} (hf : Fr S170 w w') (hL : LO w P R n) : LO w' P R n := ⟨fun t ht => by rw [(hf 14 0 rfl).1]; exact hL.1 t ht, fun j hj u hu => by rw [(hf 15 0 rfl).1]; exact hL.2.1 j hj u hu, fun j hj => by rw [(hf 16 0 rfl).1]; exact hL.2.2.1 j hj, by rw [(hf 4 0 rfl).1]; exact hL.2.2.2.1, by rw [(hf 4 0 rfl).1]; exact hL.2.2.2.2⟩
theorem v_lin_in (hW : WP L P) (hV : VR L P n R) {c : Nat} (hc : c < 4096) (hz : WO8 P R n c ≠ 0) : ∀ (k t : Nat) (w : Wd), k + t = 4 → LO w P R n → (∀ x, x < 4096 → w.2 17 0 x = lN (zWp g8 (fun i t => goM P R n (d8 i) t) c t x)) →
    ∃ w', x_X4_linearOrders 26 [] [some (zr 4 0), some (zi (nI c)), some (zi (nI t))] w = x_X4_linearOrders 17 [] [some (zr 4 0), some (zi (nI (c + 1))), none] w' ∧ Fr S170 w w' ∧ (∀ x, x < 4096 → w'.2 17 0 x = lN (zWp g8 (fun i t => goM P R n (d8 i) t) (c + 1) 0 x)) := by
  have hG : GL (goM P R n) L := mgB_GL hW hV
  have hs : WO8 P R n c < 281474976710657 := gn_small ds8 hG hc
  intro k
  induction k with
  | zero =>
    intro t w hk hL hA
    have : t = 4 := by omega
    subst this
    refine ⟨w, ?_, Fr.rf, fun x hx => by rw [hA x hx, zWp_4]⟩
    rw [e_X4_linearOrders_26]
    simp (disch := omega) only [jl, jle, nI_add]
    rw [if_pos (by omega)]
  | succ k ih =>
    intro t w hk hL hA
    have ht : t < 4 := by omega
    have hg8 : 0 < g8 t := ds8.2.2.1 t ht
    have e1 := hA c hc
    rw [zWp_self] at e1
    have e1 : w.2 17 0 c = lN (WO8 P R n c) := e1
    rw [e_X4_linearOrders_26]
    simp (disch := omega) only [jl, jlL, jle, jchk, jcl, e1, lcmp0, hz, ↓reduceIte, v_mayGo hW hV hL hc ht, joc, j01, v_standAfter hc ht, nI_add]
    rw [if_neg (by omega)]
    cases hg : mgB P R (d8 c) t n with
    | false =>
      rw [if_pos rfl]
      have hg' : goM P R n (d8 c) t = false := hg
      obtain ⟨w', h1, h2, h3⟩ := ih (t + 1) w (by omega) hL (fun x hx => by
        rw [hA x hx, zWp_st ht hg8, if_neg (fun z => by rw [hg'] at z; cases z.2), Nat.add_zero])
      exact ⟨w', h1, h2, h3⟩
    | true =>
      rw [if_neg (by decide)]
      have hg' : goM P R n (d8 c) t = true := hg
      have hlt := hG _ t ht hg'
      have hnx := (ds8.2.2.2 c t hc ht (by omega)).1
      have hst : (c + 2 ^ (9 - 3 * t)) % 4096 = c + g8 t := Nat.mod_eq_of_lt hnx
      have e2 := hA (c + g8 t) hnx
      rw [hst]
      simp (disch := omega) only [jchk, jcl, e2, lN_add]
      obtain ⟨w', h1, h2, h3⟩ := ih (t + 1) (wL w 17 0 (c + g8 t) (lN (zWp g8 (fun i t => goM P R n (d8 i) t) c t (c + g8 t) + WO8 P R n c))) (by omega) (LO_17 (Fr.rf.wL (by decide)) hL) (fun x hx => by
        rw [jl2, zWp_st ht hg8]
        by_cases hxe : x = c + g8 t
        · rw [if_pos ⟨rfl, rfl, hxe⟩, hxe, if_pos ⟨rfl, hg'⟩]
          rfl
        · rw [if_neg (fun z => hxe z.2.2), if_neg (fun z => hxe z.1), Nat.add_zero]
          exact hA x hx)
      exact ⟨w', h1, (Fr.rf.wL (by decide)).tr h2, h3⟩
theorem v_lin_lp (hW : WP L P) (hV : VR L P n R) : ∀ (k c : Nat) (w : Wd), k + c = 4096 → LO w P R n → (∀ x, x < 4096 → w.2 17 0 x = lN (zWp g8 (fun i t => goM P R n (d8 i) t) c 0 x)) →
    ∃ w', x_X4_linearOrders 17 [] [some (zr 4 0), some (zi (nI c)), none] w = some (lN (WO8 P R n (stN g8 R n)), w') ∧ Fr S170 w w' := by
  have hG : GL (goM P R n) L := mgB_GL hW hV
  obtain ⟨s1, s2, s3, s4⟩ := st_all hW hV.2.1 hV.2.2 n (Nat.le_refl _)
  have hE := eN_lt40 s1
  rw [s4] at hE
  intro k
  induction k with
  | zero =>
    intro c w hk hL hA
    have : c = 4096 := by omega
    subst this
    refine ⟨w, ?_, Fr.rf⟩
    have e := hA _ hE
    rw [zWp_end hE] at e
    rw [e_X4_linearOrders_17, hL.2.2.2.2]
    simp (disch := omega) only [jl, jle, jchk, jcl, e, Nat.le_refl, ↓reduceIte]
    rfl
  | succ k ih =>
    intro c w hk hL hA
    have hc : c < 4096 := by omega
    have hs : WO8 P R n c < 281474976710657 := gn_small ds8 hG hc
    by_cases hz : WO8 P R n c = 0
    · have hz' : zW g8 (fun i t => goM P R n (d8 i) t) c = 0 := hz
      obtain ⟨w', h1, h2⟩ := ih (c + 1) w (by omega) hL (fun x hx => by rw [zWp_skip hz']; exact hA x hx)
      refine ⟨w', ?_, h2⟩
      have e1 := hA c hc
      rw [zWp_self, hz'] at e1
      rw [← h1, e_X4_linearOrders_17, e_X4_linearOrders_26]
      simp (disch := omega) only [jl, jlL, jle, jchk, jcl, e1, lcmp0, ↓reduceIte, nI_add]
      rw [if_neg (by omega), if_neg (by omega)]
    · obtain ⟨w1, a1, a2, a3⟩ := v_lin_in hW hV hc hz 4 0 w rfl hL hA
      obtain ⟨w', h1, h2⟩ := ih (c + 1) w1 (by omega) (LO_17 a2 hL) a3
      refine ⟨w', ?_, a2.tr h2⟩
      rw [← h1, ← a1, e_X4_linearOrders_17]
      simp (disch := omega) only [jl, jle]
      rw [if_neg (by omega)]
theorem v_linear (hW : WP L P) (hV : VR L P n R) {w : Wd} (hL : LO w P R n) : ∃ w', f_X4_linearOrders 0 w = some (lN (WO8 P R n (stN g8 R n)), w') ∧ Fr S170 w w' := by
  obtain ⟨w1, a1, a2, a3⟩ := v_fill_J (k := 0) (len := 4096) rfl (lN 0) w
  have f2 : Fr S170 w1 (wL w1 17 0 0 (lN 1)) := Fr.rf.wL (by decide)
  obtain ⟨w', h1, h2⟩ := v_lin_lp hW hV 4096 0 (wL w1 17 0 0 (lN 1)) rfl (LO_17 (a2.tr f2) hL) (fun x hx => by
    rw [jl2, zWp_0]
    by_cases h0 : x = 0
    · rw [if_pos ⟨rfl, rfl, h0⟩, if_pos h0]
    · rw [if_neg (fun z => h0 z.2.2), if_neg h0]
      exact a3 x hx)
  refine ⟨w', ?_, (a2.tr f2).tr h2⟩
  rw [← h1, e_X4_linearOrders]
  simp (disch := omega) only [jl, jlL, a1, joc, jchk, jcl]
end L8
