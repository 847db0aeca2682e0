/-! THE LAW answers 1, from a world of zeros. -/
section LW
def s0 : Stt := (fun _ => 0, fun _ _ => 0, 0, fun _ => 0)
def g0 : Gst := ((0, fun _ => 0), s0, (fun _ => s0, 0, 0), (fun _ => s0, fun _ => false))
theorem SV_0 : SV s0 := ⟨fun t ht => ⟨Nat.zero_le _, fun s hs => absurd hs (Nat.not_lt_zero _)⟩, fun t ht => rfl, ⟨fun t _ => rfl, fun t s _ => rfl⟩, VR_0 _ _⟩
theorem GI_0 : GI g0 := ⟨⟨by show 0 ≤ 40; decide, fun i hi => absurd hi (Nat.not_lt_zero _)⟩, SV_0, ⟨by show 0 ≤ 6; decide, by show 0 < 6; decide, fun i hi => absurd hi (Nat.not_lt_zero _)⟩, fun j _ hb => (by cases hb)⟩
theorem CI_0 {w : Wd} (hz : ∀ t i j, t < 50 → w.1 t i j = nI 0) : CI w g0 :=
  ⟨⟨⟨hz _ _ _ (by decide), fun i hi => absurd hi (Nat.not_lt_zero _)⟩, ⟨⟨fun t ht => hz _ _ _ (by decide), fun t s ht hs => absurd hs (Nat.not_lt_zero _)⟩, hz _ _ _ (by decide), fun i hi => absurd hi (Nat.not_lt_zero _)⟩, ⟨hz _ _ _ (by decide), hz _ _ _ (by decide), fun i hi => absurd hi (Nat.not_lt_zero _)⟩, fun j _ => ⟨hz _ _ _ (by decide), fun hb => (by cases hb)⟩⟩, Or.inl (hz _ _ _ (by decide))⟩
theorem Wn.sub {o : Option (Int32 × Wd)} {Q Q' : Wd → Prop} {A : Int32 × Wd → Option (Int32 × Wd)} {B : Int32 × Wd → Option (Int32 × Wd)} (h : Wn o Q') (k : ∀ w', Q' w' → Wn (A (nI 1, w')) Q) : Wn (oC o fun q => if q.1 = 0 then B q else A q) Q := by
  obtain ⟨w', h1, h2⟩ := h
  rw [h1]
  show Wn (if nI 1 = 0 then B (nI 1, w') else A (nI 1, w')) Q
  rw [if_neg (by decide)]
  exact k w' h2
/-! no programs: one stand -/
section Z
abbrev zL : Nat → Nat := fun _ => 0
abbrev zP : Nat → Nat → Nat := fun _ _ => 0
theorem zWP : WP zL zP := SV_0.1
theorem z_ndl : ndl zL zP = 0 := by
  refine zsm_zero fun c _ => ?_
  unfold nd8
  rw [if_neg]
  unfold dB8 deadS nxS
  simp
theorem z_ne8 : ne8 zL zP = 1 := by
  have h1 := ne8_pos (P := zP) zWP
  have h2 := ne8_split (L := zL) (P := zP)
  have h3 := nf8_le (P := zP) zWP
  have h4 := z_ndl
  omega
theorem z_nr8 : nr8 zL zP = 1 := by
  have h1 := ne8_nr (L := zL) (P := zP)
  have h2 := nr8_le (P := zP) zWP
  have h3 := z_ne8
  have h4 : (zL 0 + 1) * (zL 1 + 1) * (zL 2 + 1) * (zL 3 + 1) = 1 := rfl
  omega
theorem z_wd8 : wd8 zL zP = 0 := wd8_0 z_ndl
theorem z_wh8 : wh8 zL zP = 1 := by
  have h1 := wh8_split (L := zL) (P := zP)
  have h2 := wf8_ge (L := zL) (P := zP)
  have h3 := ne8_split (L := zL) (P := zP)
  have h4 := z_ne8
  have h5 := z_ndl
  have h6 := z_wd8
  have h7 : wf8 zL zP ≤ 1 := by
    have e : wf8 zL zP = zsm (fun c => if fB8 zL zP c = true then W8 zL zP c else 0) 1 := by
      refine zsm_gap (by decide) fun c hc hc2 => ?_
      rw [if_neg]
      intro hb
      have h8 : ∀ u, u < 4 → d8 c u = 0 := fB8_at zWP hc2 hb
      have h9 := d8_num hc2
      rw [h8 0 (by decide), h8 1 (by decide), h8 2 (by decide), h8 3 (by decide)] at h9
      omega
    rw [e]
    show 0 + (if fB8 zL zP 0 = true then W8 zL zP 0 else 0) ≤ 1
    have e0 : W8 zL zP 0 = 1 := by unfold W8; rw [zW_0]
    rw [e0]
    split <;> omega
  omega
theorem z_slp : zsm (sE zL zP) 2401 = 1 := by
  have h1 := ends_ge (P := zP) zWP
  have h2 := ends_le (P := zP) zWP
  have h3 := z_ne8
  have h4 := z_wh8
  omega
end Z
/-! the last part: saved, changed, restored, undone -/
theorem PA_tr {g g' : Gst} {a : Nat → Nat} (h : PA g a) (e : g'.2.1 = g.2.1) : PA g' a := by
  unfold PA
  rw [e]
  exact h
theorem PA_tr' {g g' : Gst} {a : Nat → Nat} (h : PA g a) (e1 : g'.2.1.1 = g.2.1.1) (e2 : g'.2.1.2.1 = g.2.1.2.1) : PA g' a := by
  unfold PA
  rw [e1, e2]
  exact h
theorem KA_tr {g g' : Gst} {a : Nat → Nat} (h : KA g a) (e : g'.2.1 = g.2.1) : KA g' a := by
  unfold KA
  rw [e]
  exact h
theorem hrec_two (h : Nat → Stt) (z : Nat) (s : Stt) (h1 : 1 ≤ z) (h6 : z ≤ 6) : hrec h z s ((if z < 6 then z + 1 else 6) - 1 - 1) = h (z - 1) := by
  unfold hrec
  by_cases e : z < 6
  · rw [if_pos e, if_pos e, if_neg (by omega)]
    congr 1
  · rw [if_neg e, if_neg e, if_neg (by omega)]
    congr 1
    omega
set_option maxHeartbeats 4000000 in
theorem law_296 {g : Gst} (hG : GI g) (hp : g.1.1 = 0) {a : Nat → Nat} (hA : PA g a) (hK : KA g a) {g5 : Gst} (h5 : g5 = savG g 1) {g6 : Gst} (h6 : g6 = prgG g5 0) (hG6 : GI g6) {x : Int32} {w : Wd} (hS : St w g6 a) :
    Wn (x_L_law 296 [zi x, zi x] [none, some (zr 7 0), some (zr 30 0), some (zi (nI (g.2.1.1 0 + g.2.1.1 1 + g.2.1.1 2 + g.2.1.1 3))), some (zi (nI (ndl g.2.1.1 g.2.1.2.1))), none] w) fun _ => True := by
  have hz := hG.2.2.1.1
  have hn24 := hG.2.1.2.2.2.1
  have hb : g6.2.2.2.2 1 = true := by rw [h6, h5]; rfl
  have hsv : g6.2.2.2.1 1 = g.2.1 := by rw [h6, h5]; rfl
  have hh6 : g6.2.2.1 = (recG g5).2.2.1 := by rw [h6]; rfl
  have hz5 : g5.2.2.1.2.1 = g.2.2.1.2.1 := by rw [h5]; rfl
  have hs5 : g5.2.1 = g.2.1 := by rw [h5]; rfl
  have hp5 : g5.1.1 = 0 := by rw [h5]; exact hp
  have hL6 : g6.2.1.1 0 = 0 := by
    rw [h6]
    show pgL 0 g5.1.1 g5.2.1.1 0 = 0
    rw [show pgL 0 g5.1.1 g5.2.1.1 0 = g5.1.1 / 2 from if_pos rfl, hp5]
  have hz6 : g6.2.2.1.2.1 = if g.2.2.1.2.1 < 6 then g.2.2.1.2.1 + 1 else 6 := by rw [hh6, ← hz5]; rfl
  have htop6 : g6.2.2.1.1 (g6.2.2.1.2.1 - 1) = g.2.1 := by
    rw [hz6, hh6, ← hz5, ← hs5]
    exact hrec_at _ _ _ (by omega)
  have hG7 := rstG_GI hG6 (q := 1) (by decide) hb
  have e7 : (rstG g6 1).2.1 = g.2.1 := hsv
  have hA7 : PA (rstG g6 1) a := PA_tr hA e7
  have hz7 : (rstG g6 1).2.2.1.2.1 = if g6.2.2.1.2.1 < 6 then g6.2.2.1.2.1 + 1 else 6 := rfl
  have hn7 : (rstG g6 1).2.2.1.2.1 ≠ 0 := by rw [hz7]; exact rec_nz _
  have hle7 := hG7.2.2.1.1
  have hG8 := undG_GI hG7 hn7
  have h66 := hG6.2.2.1.1
  have e8 : (undG (rstG g6 1)).2.1 = g6.2.1 := hrec_at _ _ _ h66
  have hz61 : 1 ≤ g6.2.2.1.2.1 := by rw [hz6]; split <;> omega
  have hz8 : (undG (rstG g6 1)).2.2.1.2.1 = (if g6.2.2.1.2.1 < 6 then g6.2.2.1.2.1 + 1 else 6) - 1 := rfl
  have hn8 : (undG (rstG g6 1)).2.2.1.2.1 ≠ 0 := by rw [hz8]; split <;> omega
  have hG9 := undG_GI hG8 hn8
  have e9 : (undG (undG (rstG g6 1))).2.1 = g.2.1 := (hrec_two g6.2.2.1.1 g6.2.2.1.2.1 g6.2.1 hz61 h66).trans htop6
  have p56 : ∀ w, RA w a → w.1 30 0 56 = nI g.2.1.2.2.1 := fun w h => by rw [h 56 (by decide), hK.1]
  have p0 : ∀ w, RA w a → w.1 30 0 0 = nI (g.2.1.1 0) := fun w h => by rw [h 0 (by decide), (hA.1 0 (by decide)).1]
  rw [e_L_law_296]
  refine Wn.pos rfl ?_
  refine Wn.call (k_restore hG6 (q := 1) (by decide) hb) hS fun w1 s1 => ?_
  refine Wn.pos (by rw [hsv]) ?_
  refine Wn.call k_count7 s1 fun w2 s2 => ?_
  refine Wn.chk (x := 56) (by decide) (by decide) ?_
  refine Wn.pos ?_ ?_
  · show nI (rstG g6 1).2.1.2.2.1 = w2.1 30 0 56
    rw [e7, p56 w2 s2.2]
  refine Wn.call (k_stands2 hG7) s2 fun w3 s3 => ?_
  refine Wn.pos (by rw [e7]) ?_
  refine Wn.sub (m_steps hG7 hA7 s3) fun w4 s4 => ?_
  refine Wn.call (k_undo hG7 hn7) s4 fun w5 s5 => ?_
  refine Wn.neg (by show ¬ nI _ < 0; rw [jlt0 (by omega)]; exact id) ?_
  refine Wn.call (k_count_t hG8 (q := 0) (by decide)) s5 fun w6 s6 => ?_
  refine Wn.pos (by rw [e8, hL6]; rfl) ?_
  have hle8 := hG8.2.2.1.1
  refine Wn.call (k_undo hG8 hn8) s6 fun w7 s7 => ?_
  refine Wn.neg (by show ¬ nI _ < 0; rw [jlt0 (by omega)]; exact id) ?_
  refine Wn.call (k_count_t hG9 (q := 0) (by decide)) s7 fun w8 s8 => ?_
  refine Wn.chk (x := 0) (by decide) (by decide) ?_
  refine Wn.pos ?_ ?_
  · show nI ((undG (undG (rstG g6 1))).2.1.1 0) = w8.1 30 0 0
    rw [e9, p0 w8 s8.2]
  refine Wn.call k_count7 s8 fun w9 s9 => ?_
  refine Wn.chk (x := 56) (by decide) (by decide) ?_
  refine Wn.pos ?_ (Wn.one trivial)
  show nI (undG (undG (rstG g6 1))).2.1.2.2.1 = w9.1 30 0 56
  rw [e9, p56 w9 s9.2]
theorem law_4 {g : Gst} (hG : GI g) {a : Nat → Nat} (hA : PA g a) (h0 : g.2.1.2.2.1 = 0) (h56 : a 56 < 100) {w : Wd} (hS : St w g a) : Wn (x_L_law 133 [] [some (zr 50 0), some (zr 7 0), some (zr 30 0), some (zi (nI 4)), none, none] w) fun _ => True := by
  rw [e_L_law_133]
  refine Wn.pos (by decide) ?_
  refine Wn.sub (m_steps hG hA hS) fun w1 s1 => ?_
  refine Wn.sub (m_stands hG hA s1) fun w2 s2 => ?_
  refine Wn.sub (m_way hG h56 s2) fun w3 ⟨g3, s3, hG3, e3⟩ => ?_
  have hA3 := PA_tr hA e3
  obtain ⟨v, hv⟩ := m_cell (w := w3) (k := 4) (by decide)
  refine Wn.eq hv ?_
  refine Wn.sub (m_keeps hG3 hA3 (by rw [e3]; exact h0) s3 v) fun w4 ⟨g4, a4, s4, hG4, hA4, hK4, e41, e42⟩ => ?_
  refine Wn.sub (m_run hG4 hA4 hK4 s4) fun w5 ⟨g5, s5, hG5, e5⟩ => ?_
  have hA5 := PA_tr hA4 e5
  have hK5 := KA_tr hK4 e5
  refine Wn.sub (m_fails hG5 s5) fun w6 ⟨g6, s6, hG6, hp6, e6⟩ => ?_
  have e61 : g6.2.1 = g5.2.1 := by rw [e6]
  have hA6 := PA_tr hA5 e61
  have hK6 := KA_tr hK5 e61
  clear hG hA h0 h56 hS s1 s2 hG3 e3 s3 hA3 hv s4 hG4 hA4 hK4 e41 e42 hG5 e5 s5 hA5 hK5 e6 e61
  have hz := hG6.2.2.1.1
  have hG7 := savG_GI hG6 1
  have hO7 : okP (savG g6 1).1.1 (savG g6 1).1.2 := by
    refine ⟨?_, ?_, fun j hj => ?_⟩
    · show g6.1.1 ≤ 12
      omega
    · show g6.1.1 % 2 = 0
      omega
    · have hj : j < g6.1.1 := hj
      omega
  have e12 : (savG g6 1).1.1 / 2 = 0 := by
    show g6.1.1 / 2 = 0
    omega
  have hpl : pgL 0 (savG g6 1).1.1 (savG g6 1).2.1.1 0 = 0 := by
    rw [show pgL 0 (savG g6 1).1.1 (savG g6 1).2.1.1 0 = (savG g6 1).1.1 / 2 from if_pos rfl, e12]
  have hw7 : wl (pgP (savG g6 1).1.2 0 (savG g6 1).1.1 (savG g6 1).2.1.2.1) 0 (pgL 0 (savG g6 1).1.1 (savG g6 1).2.1.1 0) = true := by
    rw [hpl]
    rfl
  have hG8 := prgG_GI hG7 hO7 (t := 0) (by decide) hw7
  refine Wn.call (k_count4 hG6) s6 fun w7 s7 => ?_
  refine Wn.call (k_stands2 hG6) s7 fun w8 s8 => ?_
  refine Wn.call k_count6 s8 fun w9 s9 => ?_
  refine Wn.call (k_save hG6 (q := 1) (by decide)) s9 fun w10 s10 => ?_
  refine Wn.pos rfl ?_
  refine Wn.call (k_program hG7 hO7 (t := 0) (by decide) hw7) s10 fun w11 s11 => ?_
  refine Wn.pos (by show nI ((savG g6 1).1.1 / 2) = 0; rw [e12]; rfl) ?_
  refine Wn.call (k_count4 hG8) s11 fun w12 s12 => ?_
  refine Wn.chk (x := 0) (by decide) (by decide) ?_
  refine Wn.pos ?_ ?_
  · have q0 : w12.1 30 0 0 = nI (g6.2.1.1 0) := by rw [s12.2 0 (by decide), (hA6.1 0 (by decide)).1]
    show nI (pgL 0 (savG g6 1).1.1 (savG g6 1).2.1.1 0 + g6.2.1.1 1 + g6.2.1.1 2 + g6.2.1.1 3) = nI (g6.2.1.1 0 + g6.2.1.1 1 + g6.2.1.1 2 + g6.2.1.1 3) - w12.1 30 0 0
    rw [q0, hpl, jsub (by omega)]
    congr 1
    omega
  refine Wn.call k_count7 s12 fun w13 s13 => ?_
  refine Wn.pos rfl ?_
  refine Wn.call k_count6 s13 fun w14 s14 => ?_
  by_cases h6 : g6.2.2.1.2.1 < 6
  · have e15 : (prgG (savG g6 1) 0).2.2.1.2.1 = g6.2.2.1.2.1 + 1 := if_pos h6
    refine Wn.neg (by show ¬ nI 6 ≤ nI _; rw [jle (by decide) (by omega)]; omega) ?_
    show Wn (x_L_law 296 [zi (nI g6.2.2.1.2.1 + nI 1), zi (nI (prgG (savG g6 1) 0).2.2.1.2.1)] _ _) _
    rw [e15, nI_add]
    exact law_296 hG6 hp6 hA6 hK6 rfl rfl hG8 s14
  · have e15 : (prgG (savG g6 1) 0).2.2.1.2.1 = 6 := if_neg h6
    refine Wn.pos (by show nI 6 ≤ nI _; rw [jle (by decide) (by omega)]; omega) ?_
    show Wn (x_L_law 296 [zi (nI 6), zi (nI (prgG (savG g6 1) 0).2.2.1.2.1)] _ _) _
    rw [e15]
    exact law_296 hG6 hp6 hA6 hK6 rfl rfl hG8 s14
theorem law_133 : ∀ (m t : Nat) (g : Gst) (a : Nat → Nat) (w : Wd), m + t = 4 → GI g → PA g a → g.1.1 = 0 → g.2.1.2.2.1 = 0 → a 56 < 100 → St w g a → Wn (x_L_law 133 [] [some (zr 50 0), some (zr 7 0), some (zr 30 0), some (zi (nI t)), none, none] w) fun _ => True := by
  intro m
  induction m with
  | zero =>
    intro t g a w ht hG hA hp h0 h56 hS
    have : t = 4 := by omega
    subst this
    exact law_4 hG hA h0 h56 hS
  | succ m ih =>
    intro t g a w ht hG hA hp h0 h56 hS
    have e1 : nI t + Int32.ofInt 1 = nI (t + 1) := nI_add t 1
    rw [e_L_law_133]
    refine Wn.neg (by rw [jl, jle (by decide) (by omega)]; omega) ?_
    obtain ⟨v, hv⟩ := m_cell (w := w) (k := t) (by omega)
    refine Wn.eq hv ?_
    refine Wn.sub (m_reads hG hA hp (show t < 4 by omega) hS v) fun w1 ⟨g1, a1, s1, hG1, hA1, hp1, h01, h2⟩ => ?_
    rw [e1]
    exact ih (t + 1) g1 a1 w1 (by omega) hG1 hA1 hp1 h01 (by rw [h2 56 (by decide)]; exact h56) s1
theorem law_start {w : Wd} (hz : ∀ t i j, t < 50 → w.1 t i j = nI 0) : ∃ w', x_L_law 13 [] [some (zr 50 0), some (zr 7 0), some (zr 30 0), none, none, none] w = some (nI 1, w') := by
  have hS : St w g0 (fun _ => 0) := ⟨CI_0 hz, fun j _ => hz 30 0 j (by decide)⟩
  have hO : okR g0.1.1 g0.1.2 := ⟨Nat.zero_le _, fun j hj => absurd hj (Nat.not_lt_zero _)⟩
  have hOp : okP g0.1.1 g0.1.2 := ⟨Nat.zero_le _, rfl, fun j hj => absurd hj (Nat.not_lt_zero _)⟩
  have hW : Wn (x_L_law 13 [] [some (zr 50 0), some (zr 7 0), some (zr 30 0), none, none, none] w) fun _ => True := by
    rw [e_L_law_13]
    refine Wn.call (k_undo0 (g := g0) rfl) hS fun w1 s1 => ?_
    refine Wn.pos rfl ?_
    refine Wn.call (k_restore_no (g := g0) (q := 0) (by decide) rfl) s1 fun w2 s2 => ?_
    refine Wn.pos rfl ?_
    refine Wn.call (k_stands0 GI_0) s2 fun w3 s3 => ?_
    refine Wn.pos (by show nI (nr8 zL zP) = nI 1; rw [z_nr8]) ?_
    refine Wn.call (k_stands1 GI_0) s3 fun w4 s4 => ?_
    refine Wn.pos (by show nI (ne8 zL zP) = nI 1; rw [z_ne8]) ?_
    refine Wn.call (k_stands2 GI_0) s4 fun w5 s5 => ?_
    refine Wn.pos (by show nI (ndl zL zP) = 0; rw [z_ndl]; rfl) ?_
    refine Wn.call (k_runs0 GI_0) s5 fun w6 s6 => ?_
    refine Wn.pos (by show lg_cmp (lN (wh8 zL zP)) (lN 1) = 0; rw [z_wh8]; decide) ?_
    refine Wn.call (k_runs1 GI_0) s6 fun w7 s7 => ?_
    refine Wn.pos (by show lg_cmp (lN (wd8 zL zP)) (lN 0) = 0; rw [z_wd8]; decide) ?_
    refine Wn.call (k_slp0 GI_0) s7 fun w8 s8 => ?_
    refine Wn.pos (by show lg_cmp (lN (zsm (sE zL zP) 2401)) (lN 1) = 0; rw [z_slp]; decide) ?_
    refine Wn.call (k_chain GI_0) s8 fun w9 s9 => ?_
    refine Wn.pos rfl ?_
    refine Wn.call (k_alikeRuns GI_0) s9 fun w10 s10 => ?_
    refine Wn.pos (by show lg_cmp (lN (wy zP (fun _ => 0) 0)) (lN 1) = 0; rw [wy_0]; decide) ?_
    refine Wn.call (k_alike GI_0 hO rfl) s10 fun w11 s11 => ?_
    refine Wn.pos rfl ?_
    refine Wn.call (k_fault0 GI_0 hOp) s11 fun w12 s12 => ?_
    refine Wn.pos rfl ?_
    refine Wn.sub (m_fails GI_0 s12) fun w13 ⟨g1, s13, hG1, hp1, e1⟩ => ?_
    have e11 : g1.2.1 = g0.2.1 := by rw [e1]
    have hA0 : PA g0 (fun _ => 0) := ⟨fun t _ => ⟨rfl, by show 0 ≤ 4; decide⟩, fun t s _ hs => absurd hs (Nat.not_lt_zero _)⟩
    exact law_133 4 0 g1 (fun _ => 0) w13 rfl hG1 (PA_tr hA0 e11) hp1 (by rw [e11]; rfl) (by decide) s13
  obtain ⟨w', h1, -⟩ := hW
  exact ⟨w', h1⟩
end LW
