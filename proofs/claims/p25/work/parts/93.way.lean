/-! THE LAW keeps the way to a deadlock. -/
section WW
variable {g : Gst} {a : Nat → Nat}
def dgP (R : Nat → Nat) (i : Nat) (S : Nat → Nat) : Prop := ∀ j, j < i → S j = 48 + R j ∧ R j < 4
theorem dgP_ok {R S : Nat → Nat} {i : Nat} (h : dgP R i S) (hi : i ≤ 24) : okR i S := ⟨hi, fun j hj => by rw [(h j hj).1]; exact dg_48 _ (h j hj).2⟩
theorem dgP_SK {R S : Nat → Nat} {i : Nat} (h : dgP R i S) (hi : i ≤ 40) : SK i S := ⟨hi, fun j hj => by have := h j hj; omega⟩
theorem dgP_R {R S : Nat → Nat} {i : Nat} (h : dgP R i S) {j : Nat} (hj : j < i) : padR S j = R j := by
  unfold padR
  rw [(h j hj).1]
  omega
theorem dgP_put {R S : Nat → Nat} {i t : Nat} (h : dgP R i S) (ht : t < 4) (e : R i = t) : dgP R (i + 1) (fun j => if j < i then S j else bt (y1 t) (1 - 1 - (j - i))) := fun j hj => by
  dsimp only
  by_cases e2 : j = i
  · rw [e2, if_neg (by omega), show 1 - 1 - (i - i) = 0 by omega, (put1 t ht).2, e]
    exact ⟨rfl, ht⟩
  · rw [if_pos (by omega)]
    exact h j (by omega)
theorem dgP_put' {R S : Nat → Nat} {i t : Nat} (h : dgP R i S) (ht : t < 4) : dgP (up1 R i t) (i + 1) (fun j => if j < i then S j else bt (y1 t) (1 - 1 - (j - i))) := by
  refine dgP_put (fun j hj => ?_) ht (if_pos rfl)
  unfold up1
  rw [if_neg (by omega)]
  exact h j hj
theorem vb_cg {L : Nat → Nat} {P : Nat → Nat → Nat} {A B : Nat → Nat} : ∀ m, (∀ j, j < m → A j = B j) → vb L P A m = vb L P B m
  | 0, _ => rfl
  | m + 1, h => by
    rw [vb, vb, vb_cg m fun j hj => h j (by omega), h m (by omega)]
    congr 2
    funext u
    exact dn_cg (fun j hj => h j (by omega)) u
theorem hrec_at (h : Nat → Stt) (z : Nat) (s : Stt) (hz : z ≤ 6) : hrec h z s ((if z < 6 then z + 1 else 6) - 1) = s := by
  unfold hrec
  by_cases e : z < 6
  · rw [if_pos e, if_pos e, if_pos (by omega)]
  · rw [if_neg e, if_neg e, if_pos (by omega)]
theorem rec_nz (z : Nat) : (if z < 6 then z + 1 else 6) ≠ 0 := by split <;> omega
theorem way_147 {gk : Gst} (hG : GI gk) {g0 : Gst} (hr : gk.2.2 = (recG g0).2.2) (h0 : GI g0) (ha : a 56 < 100) {n c0 : Nat} (hc0 : c0 < 4096) (hb : dB8 gk.2.1.1 gk.2.1.2.1 c0 = true) (hn : code7 c0 = n) : ∀ (k i f : Nat) (w : Wd), k + i = ndl gk.2.1.1 gk.2.1.2.1 → (f = 1 ∨ f = 0 ∧ i ≤ zsm (nd8 gk.2.1.1 gk.2.1.2.1) c0) → St w gk a →
    Wn (x_L_way 147 [] [some (zr 7 0), some (zr 30 0), none, none, some (zi (nI n)), some (zi (nI 1)), some (zi (nI f)), some (zi (nI i))] w) fun w' => ∃ g', St w' g' a ∧ GI g' ∧ g'.2.1 = g0.2.1 := by
  have hle := nd8_le (L := gk.2.1.1) (P := gk.2.1.2.1) 4096
  have hD : ndl gk.2.1.1 gk.2.1.2.1 ≤ 4096 := hle
  have hlt : zsm (nd8 gk.2.1.1 gk.2.1.2.1) c0 < ndl gk.2.1.1 gk.2.1.2.1 := by
    have h3 := zsm_pre (f := nd8 gk.2.1.1 gk.2.1.2.1) (show c0 + 1 ≤ 4096 from hc0)
    rw [zsm] at h3
    have h4 : nd8 gk.2.1.1 gk.2.1.2.1 c0 = 1 := by unfold nd8; rw [hb]; rfl
    unfold ndl
    omega
  intro k
  induction k with
  | zero =>
    intro i f w hk hf hS
    have hf1 : f = 1 := by
      rcases hf with h | ⟨-, h⟩
      · exact h
      · omega
    subst hf1
    rw [e_L_way_147]
    refine Wn.call (k_stands2 hG) hS fun w1 s1 => ?_
    refine Wn.pos (by show nI _ ≤ nI i; rw [jle (by omega) (by omega)]; omega) ?_
    refine Wn.neg (by decide) (Wn.neg (by decide) ?_)
    have hz : gk.2.2.1.2.1 ≠ 0 := by rw [hr]; exact rec_nz _
    have h6 := hG.2.2.1.1
    refine Wn.call (k_undo hG hz) s1 fun w2 s2 => ?_
    refine Wn.neg (by show ¬ nI _ < 0; rw [jlt0 (by omega)]; exact id) ?_
    refine Wn.chk (x := 56) (by decide) (by decide) ?_
    have e56 : w2.1 30 0 56 = nI (a 56) := s2.2 56 (by decide)
    refine Wn.neg ?_ ?_
    · show ¬ w2.1 30 0 56 < 0
      rw [e56, jlt0 (by omega)]
      exact id
    · refine Wn.one ⟨undG gk, s2, undG_GI hG hz, ?_⟩
      show gk.2.2.1.1 (gk.2.2.1.2.1 - 1) = g0.2.1
      rw [hr]
      exact hrec_at _ _ _ h0.2.2.1.1
  | succ k ih =>
    intro i f w hk hf hS
    have e1 : nI i + Int32.ofInt 1 = nI (i + 1) := nI_add i 1
    rw [e_L_way_147]
    refine Wn.call (k_stands2 hG) hS fun w1 s1 => ?_
    refine Wn.neg (by show ¬ nI _ ≤ nI i; rw [jle (by omega) (by omega)]; omega) ?_
    rcases hf with rfl | ⟨rfl, hi⟩
    · refine Wn.neg (by decide) ?_
      rw [e1]
      exact ih (i + 1) 1 w1 (by omega) (Or.inl rfl) s1
    · refine Wn.pos rfl ?_
      obtain ⟨c, c1, c2, c3⟩ := nd_ex (L := gk.2.1.1) (P := gk.2.1.2.1) (i := i) 4096 (by show i < ndl _ _; omega)
      have hr8 := ds_reach ds8 hG.2.1.1 c c1 (dB8_W c2)
      refine Wn.call (k_dl hG c1 c2 c3 (q := 0) (by decide)) s1 fun w2 s2 => ?_
      refine Wn.call (k_dl hG c1 c2 c3 (q := 1) (by decide)) s2 fun w3 s3 => ?_
      refine Wn.call (k_dl hG c1 c2 c3 (q := 2) (by decide)) s3 fun w4 s4 => ?_
      refine Wn.call (k_dl hG c1 c2 c3 (q := 3) (by decide)) s4 fun w5 s5 => ?_
      have ecode : ((((Int32.ofInt 343) * nI (d8 c 0)) + ((Int32.ofInt 49) * nI (d8 c 1))) + ((Int32.ofInt 7) * nI (d8 c 2))) + nI (d8 c 3) = nI (code7 c) := by
        simp only [jl, jmul, nI_add]
        congr 1
        unfold code7
        omega
      have q0 := d8_lt c 0
      have q1 := d8_lt c 1
      have q2 := d8_lt c 2
      have q3 := d8_lt c 3
      have p0 := d8_lt c0 0
      have p1 := d8_lt c0 1
      have p2 := d8_lt c0 2
      have p3 := d8_lt c0 3
      have hcd : code7 c < 4096 := by unfold code7; omega
      have hcn : n < 4096 := by rw [← hn]; unfold code7; omega
      by_cases he : c = c0
      · refine Wn.pos ?_ ?_
        · show ((((Int32.ofInt 343) * nI (d8 c 0)) + ((Int32.ofInt 49) * nI (d8 c 1))) + ((Int32.ofInt 7) * nI (d8 c 2))) + nI (d8 c 3) = nI n
          rw [ecode, he, hn]
        · rw [e1]
          exact ih (i + 1) 1 w5 (by omega) (Or.inl rfl) s5
      · have hr80 := ds_reach ds8 hG.2.1.1 c0 hc0 (dB8_W hb)
        have h6 : ∀ x, (∀ u, u < 4 → d8 x u ≤ gk.2.1.1 u) → ∀ u, u < 4 → d8 x u ≤ 6 := fun x hx u hu => Nat.le_trans (hx u hu) (hG.2.1.1 u hu).1
        have hne : code7 c ≠ n := by
          rw [← hn]
          rcases Nat.lt_trichotomy c c0 with q | q | q
          · have := code7_lt c1 hc0 (h6 c hr8) (h6 c0 hr80) q; omega
          · exact absurd q he
          · have := code7_lt hc0 c1 (h6 c0 hr80) (h6 c hr8) q; omega
        have hidx : i ≠ zsm (nd8 gk.2.1.1 gk.2.1.2.1) c0 := fun e => he (nd_uniq (f := nd8 gk.2.1.1 gk.2.1.2.1) (i := i) (by unfold nd8; rw [c2]; rfl) (by unfold nd8; rw [hb]; rfl) c3 e.symm)
        refine Wn.neg ?_ ?_
        · show ¬ ((((Int32.ofInt 343) * nI (d8 c 0)) + ((Int32.ofInt 49) * nI (d8 c 1))) + ((Int32.ofInt 7) * nI (d8 c 2))) + nI (d8 c 3) = nI n
          rw [ecode, jeq (by omega) (by omega)]
          exact hne
        · rw [e1]
          exact ih (i + 1) 0 w5 (by omega) (Or.inr ⟨rfl, by omega⟩) s5
theorem way_23 (hG : GI g) (ha : a 56 < 100) {m : Nat} (hs : shN g.2.1.1 g.2.1.2.1 2401 = some m) {x3 : Nat} (hx3 : x3 < 100) : ∀ (k i : Nat) (w : Wd) (S : Nat → Nat), k + i = m → dgP (wR g.2.1.1 g.2.1.2.1) i S → St w ((i, S), g.2) a →
    Wn (x_L_way 23 [] [some (zr 7 0), some (zr 30 0), some (zi (nI m)), some (zi (nI x3)), some (zi (nI (psN g.2.1.1 g.2.1.2.1 i))), some (zi (nI i)), none, none] w) fun w' => ∃ g', St w' g' a ∧ GI g' ∧ g'.2.1 = g.2.1 := by
  have hW := hG.2.1.1
  have h24 := sh_lt 2401 m hs
  intro k
  induction k with
  | zero =>
    intro i w S hk hd hS
    have : i = m := by omega
    subst this
    have hG1 : GI ((i, S), g.2) := ⟨dgP_SK hd (show i ≤ 40 by omega), hG.2⟩
    have hO : okR i S := dgP_ok hd h24
    have hv : vb g.2.1.1 g.2.1.2.1 (padR S) i = true := by
      rw [vb_cg i fun j hj => dgP_R hd hj]
      exact (way_vb hW hs i (Nat.le_refl _)).1
    have hG2 := kepG_GI (g := ((i, S), g.2)) hG1 hO hv
    have p1 := (ps_all hW hs i (Nat.le_refl _)).1
    have hdd := way_dead hW hs
    have he := eN_lt p1
    rw [e_L_way_23]
    refine Wn.pos (by rw [jle (by omega) (by omega)]; exact Nat.le_refl _) ?_
    refine Wn.neg (by rw [jlt0 (by omega)]; exact id) ?_
    refine Wn.call (k_keep hG1 hO hv) hS fun w1 s1 => ?_
    refine Wn.pos rfl ?_
    refine Wn.call k_count7 s1 fun w2 s2 => ?_
    refine Wn.pos rfl ?_
    refine way_147 hG2 (g0 := ((i, S), g.2)) rfl hG1 ha (c0 := eN (psN g.2.1.1 g.2.1.2.1 i)) (by omega) ?_ (code7_eN p1) (ndl g.2.1.1 g.2.1.2.1) 0 0 w2 (Nat.add_zero _) (Or.inr ⟨rfl, Nat.zero_le _⟩) s2
    show dB8 g.2.1.1 g.2.1.2.1 _ = true
    rw [dB_eN hW p1]
    exact hdd
  | succ k ih =>
    intro i w S hk hd hS
    have him : i < m := by omega
    have hG1 : GI ((i, S), g.2) := ⟨dgP_SK hd (show i ≤ 40 by omega), hG.2⟩
    obtain ⟨p1, p2, p3, p4, p5⟩ := ps_all hW hs i (by omega)
    have ht : wR g.2.1.1 g.2.1.2.1 i < 4 := p5 him
    have e1 : nI i + Int32.ofInt 1 = nI (i + 1) := nI_add i 1
    obtain ⟨q1, q2⟩ := put1 _ ht
    rw [e_L_way_23]
    refine Wn.neg (by rw [jle (by omega) (by omega)]; omega) ?_
    refine Wn.call (k_wayp hG1 hs him) hS fun w1 s1 => ?_
    refine Wn.neg (by show ¬ nI (wR g.2.1.1 g.2.1.2.1 i) < 0; rw [jlt0 (by omega)]; exact id) ?_
    refine Wn.neg (by show ¬ Int32.ofInt 3 < nI (wR g.2.1.1 g.2.1.2.1 i); rw [jl, jlt (by decide) (by omega)]; omega) ?_
    refine Wn.call (k_put (y := y1 (wR g.2.1.1 g.2.1.2.1 i)) q1 (by decide) (show i + 1 ≤ 40 by omega)) s1 fun w2 s2 => ?_
    refine Wn.pos (by rw [e1]) ?_
    have hd' := dgP_put hd ht (i := i) rfl
    have hn := ih (i + 1) w2 _ (by omega) hd' s2
    have eps : psN g.2.1.1 g.2.1.2.1 (i + 1) = psN g.2.1.1 g.2.1.2.1 i + g7 (wR g.2.1.1 g.2.1.2.1 i) := rfl
    rw [eps] at hn
    rw [e1]
    show Wn (if nI (wR g.2.1.1 g.2.1.2.1 i) = 0 then _ else if nI (wR g.2.1.1 g.2.1.2.1 i) = Int32.ofInt 1 then _ else if nI (wR g.2.1.1 g.2.1.2.1 i) = Int32.ofInt 2 then _ else _) _
    generalize wR g.2.1.1 g.2.1.2.1 i = t at hn ht ⊢
    simp only [jl, nI_add]
    rcases four ht with rfl | rfl | rfl | rfl
    · exact Wn.pos rfl hn
    · exact Wn.neg (by decide) (Wn.pos rfl hn)
    · exact Wn.neg (by decide) (Wn.neg (by decide) (Wn.pos rfl hn))
    · exact Wn.neg (by decide) (Wn.neg (by decide) (Wn.neg (by decide) hn))
theorem m_way (hG : GI g) (ha : a 56 < 100) {w : Wd} (hS : St w g a) : Wn (f_L_way 0 0 w) fun w' => ∃ g', St w' g' a ∧ GI g' ∧ g'.2.1 = g.2.1 := by
  have hp := hG.1.1
  rw [e_L_way]
  refine Wn.call (k_way1 hG) hS fun w1 s1 => ?_
  cases hs : shN g.2.1.1 g.2.1.2.1 2401 with
  | none =>
    refine Wn.neg (show ¬ (0 : Int32) ≤ Int32.ofInt (-6) by decide) ?_
    exact Wn.one ⟨g, s1, hG, rfl⟩
  | some m =>
    have h24 := sh_lt 2401 m hs
    refine Wn.pos (by show (0 : Int32) ≤ nI m; rw [jge0 (by omega)]; trivial) ?_
    refine Wn.call k_wipe s1 fun w2 s2 => ?_
    exact way_23 hG ha hs (x3 := g.1.1) (by omega) m 0 w2 g.1.2 rfl (fun j hj => by omega) s2
end WW
