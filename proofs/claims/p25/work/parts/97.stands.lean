/-! THE LAW looks at the stands. -/
section SD
variable {g : Gst} {a : Nat → Nat}
/-! without a lock -/
theorem st_535 (hG : GI g) (hA : PA g a) {w : Wd} (hS : St w g a) {x3 : Int32} {l t : Nat} (hl : l < 4) (ht : t < 4) : ∀ (m k u : Nat), m + k = g.2.1.1 t → u ≤ 1 →
    ∃ u', u' ≤ 1 ∧ (u' = 0 → u = 0 ∧ ∀ k', k ≤ k' → k' < g.2.1.1 t → g.2.1.2.1 t k' ≠ 8 + l) ∧ x_L_stands 535 [] [some (zr 7 0), some (zr 30 0), none, some (zi x3), none, none, none, none, none, none, none, none, some (zi (nI l)), some (zi (nI u)), some (zi (nI t)), some (zi (nI k))] w =
    x_L_stands 526 [] [some (zr 7 0), some (zr 30 0), none, some (zi x3), none, none, none, none, none, none, none, none, some (zi (nI l)), some (zi (nI u')), some (zi (nI (t + 1))), none] w := by
  have eL := PA_L hA hS ht
  have h4 := (hA.1 t ht).2
  intro m
  induction m with
  | zero =>
    intro k u hk hu
    refine ⟨u, hu, fun h => ⟨h, fun k' h1 h2 => by omega⟩, ?_⟩
    rw [e_L_stands_535]
    simp (disch := omega) only [jl, jchk, jcl, eL, jle, nI_add]
    rw [if_pos (by omega)]
  | succ m ih =>
    intro k u hk hu
    have hkl : k < g.2.1.1 t := by omega
    have eP := PA_P hA hS ht hkl
    have hp := P_lt hG.2.1.1 ht hkl
    by_cases h0 : u = 0
    · by_cases he : g.2.1.2.1 t k = 8 + l
      · obtain ⟨u', h1, h2, h3⟩ := ih (k + 1) 1 (by omega) (Nat.le_refl _)
        refine ⟨u', h1, fun h => absurd (h2 h).1 (by decide), ?_⟩
        rw [← h3, e_L_stands_535]
        simp (disch := omega) only [jl, jchk, jcl, eL, jle, nI_add, jmul, eP, jeq, jeq0]
        rw [if_neg (by omega), if_pos h0, if_pos he]
      · obtain ⟨u', h1, h2, h3⟩ := ih (k + 1) 0 (by omega) (by decide)
        refine ⟨u', h1, fun h => ⟨h0, fun k' h4 h5 => ?_⟩, ?_⟩
        · by_cases e : k' = k
          · rw [e]; exact he
          · exact (h2 h).2 k' (by omega) h5
        · rw [← h3, e_L_stands_535]
          simp (disch := omega) only [jl, jchk, jcl, eL, jle, nI_add, jmul, eP, jeq, jeq0]
          rw [if_neg (by omega), if_pos h0, if_neg he]
    · obtain ⟨u', h1, h2, h3⟩ := ih (k + 1) 1 (by omega) (Nat.le_refl _)
      refine ⟨u', h1, fun h => absurd (h2 h).1 (by decide), ?_⟩
      rw [← h3, e_L_stands_535]
      simp (disch := omega) only [jl, jchk, jcl, eL, jle, nI_add, jmul, eP, jeq, jeq0]
      rw [if_neg (by omega), if_neg h0]
theorem st_526 (hG : GI g) (hA : PA g a) {w : Wd} (hS : St w g a) {x3 : Int32} {l : Nat} (hl : l < 4) : ∀ (m t u : Nat), m + t = 4 → u ≤ 1 →
    ∃ u', u' ≤ 1 ∧ (u' = 0 → u = 0 ∧ ∀ t', t ≤ t' → t' < 4 → ∀ k, k < g.2.1.1 t' → g.2.1.2.1 t' k ≠ 8 + l) ∧ x_L_stands 526 [] [some (zr 7 0), some (zr 30 0), none, some (zi x3), none, none, none, none, none, none, none, none, some (zi (nI l)), some (zi (nI u)), some (zi (nI t)), none] w =
    x_L_stands 526 [] [some (zr 7 0), some (zr 30 0), none, some (zi x3), none, none, none, none, none, none, none, none, some (zi (nI l)), some (zi (nI u')), some (zi (nI 4)), none] w := by
  intro m
  induction m with
  | zero =>
    intro t u ht hu
    refine ⟨u, hu, fun h => ⟨h, fun t' h1 h2 => by omega⟩, ?_⟩
    rw [show t = 4 by omega]
  | succ m ih =>
    intro t u ht hu
    obtain ⟨u1, a1, a2, a3⟩ := st_535 hG hA hS (x3 := x3) hl (show t < 4 by omega) (g.2.1.1 t) 0 u rfl hu
    obtain ⟨u2, b1, b2, b3⟩ := ih (t + 1) u1 (by omega) a1
    refine ⟨u2, b1, fun h => ?_, ?_⟩
    · obtain ⟨c1, c2⟩ := b2 h
      obtain ⟨d1, d2⟩ := a2 c1
      refine ⟨d1, fun t' h1 h2 k hk => ?_⟩
      by_cases e : t' = t
      · rw [e] at hk ⊢
        exact d2 k (Nat.zero_le _) hk
      · exact c2 t' (by omega) h2 k hk
    · rw [← b3, ← a3, e_L_stands_526, if_neg (by rw [jl, jle (by decide) (by omega)]; omega)]
      rfl
theorem st_509 (hG : GI g) (hA : PA g a) : ∀ (m l : Nat) (w : Wd), m + l = 4 → St w g a →
    Wn (x_L_stands 509 [] [some (zr 7 0), some (zr 30 0), none, some (zi (nI (ndl g.2.1.1 g.2.1.2.1))), none, none, none, none, none, none, none, some (zi (nI 1)), some (zi (nI l)), none, none, none] w) fun w' => St w' g a := by
  obtain ⟨hW, hE, hN, hV⟩ := hG.2.1
  intro m
  induction m with
  | zero =>
    intro l w hl hS
    rw [e_L_stands_509]
    refine Wn.pos (by rw [jl, jle (by decide) (by omega)]; omega) ?_
    exact Wn.one hS
  | succ m ih =>
    intro l w hl hS
    have hl4 : l < 4 := by omega
    obtain ⟨u, h1, h2, h3⟩ := st_526 hG hA hS (x3 := nI (ndl g.2.1.1 g.2.1.2.1)) hl4 4 0 0 rfl (Nat.zero_le _)
    have hX := nd8_le (L := oL l g.2.1.1 g.2.1.2.1) (P := oP l g.2.1.1 g.2.1.2.1) 4096
    have e1 : nI l + Int32.ofInt 1 = nI (l + 1) := nI_add l 1
    rw [e_L_stands_509]
    refine Wn.neg (by rw [jl, jle (by decide) (by omega)]; omega) (Wn.neg (by decide) ?_)
    refine Wn.rw h3 ?_
    rw [e_L_stands_526]
    refine Wn.pos (by decide) ?_
    refine Wn.call (k_without hG hl4) hS fun w1 s1 => ?_
    refine Wn.neg (by show ¬ nI _ < 0; rw [jlt0 (by unfold ndl; omega)]; exact id) ?_
    by_cases h0 : u = 0
    · refine Wn.pos (by rw [h0]; rfl) ?_
      refine Wn.call (k_without hG hl4) s1 fun w2 s2 => ?_
      obtain ⟨q1, q2⟩ := wo_same hW hE hN (l := l) fun t ht k hk => (h2 h0).2 t (Nat.zero_le _) ht k hk
      refine Wn.pos (by rw [q1, q2]) ?_
      rw [e1]
      exact ih (l + 1) w2 (by omega) s2
    · refine Wn.neg (by rw [jeq0 (by omega)]; exact h0) ?_
      rw [e1]
      exact ih (l + 1) w1 (by omega) s1
/-! one deadlock -/
theorem st_step (hG : GI g) (hA : PA g a) {c i : Nat} (hc : c < 4096) (hb : dB8 g.2.1.1 g.2.1.2.1 c = true) (hi : zsm (nd8 g.2.1.1 g.2.1.2.1) c = i) {t : Nat} (ht : t < 4) {x2 x3 x4 x5 : Int32} {cv lv nv kv : Nat} {Q : Wd → Prop}
    (h : ∀ w', St w' g a → Wn (x_L_stands 43 [] [some (zr 7 0), some (zr 30 0), some (zi x2), some (zi x3), some (zi x4), some (zi x5), some (zi (nI i)), some (zi (nI (7 * cv + d8 c t))), some (zi (nI (lv + d8 c t))), some (zi (nI (nv ||| if d8 c t < g.2.1.1 t then 2 ^ t else 0))), some (zi (nI (kv ||| hx g.2.1.2.1 t (d8 c t)))), some (zi (nI (t + 1))), none, none, none, none] w') Q) {w : Wd} (hS : St w g a) :
    Wn (x_L_stands 43 [] [some (zr 7 0), some (zr 30 0), some (zi x2), some (zi x3), some (zi x4), some (zi x5), some (zi (nI i)), some (zi (nI cv)), some (zi (nI lv)), some (zi (nI nv)), some (zi (nI kv)), some (zi (nI t)), none, none, none, none] w) Q := by
  have hW := hG.2.1.1
  have hr := ds_reach ds8 hW c hc (dB8_W hb) t ht
  have h4 := (hA.1 t ht).2
  have ev : tD g.2.1.1 g.2.1.2.1 t c = d8 c t := if_pos ht
  have hgo : goS g.2.1.1 g.2.1.2.1 (d8 c) t = false := by
    unfold dB8 deadS endS at hb
    simp only [Bool.and_eq_true, Bool.not_eq_true'] at hb
    rcases four ht with rfl | rfl | rfl | rfl
    · exact hb.2.1.1.1.1
    · exact hb.2.1.1.1.2
    · exact hb.2.1.1.2
    · exact hb.2.1.2
  have h2t : 2 ^ t ≤ 2 ^ 3 := Nat.pow_le_pow_right (by decide) (by omega)
  rw [e_L_stands_43]
  refine Wn.neg (by rw [jl, jle (by decide) (by omega)]; omega) ?_
  refine Wn.call (k_dl hG hc hb hi (q := t) (by omega)) hS fun w1 s1 => ?_
  have eL := PA_L hA s1 ht
  have hh : f_L_held 0 (nI t) (nI (d8 c t)) w1 = some (nI (hx g.2.1.2.1 t (d8 c t)), w1) := m_held s1.2 ht (by omega) fun s hs => ⟨hA.2 t s ht (by omega), P_lt hW ht (by omega)⟩
  rw [ev]
  have h1 := h w1 s1
  have fin : Wn (x_L_stands 95 [zi (nI (if d8 c t < g.2.1.1 t then 2 ^ t else 0)), zi (nI nv)] [some (zr 7 0), some (zr 30 0), some (zi x2), some (zi x3), some (zi x4), some (zi x5), some (zi (nI i)), some (zi (nI (7 * cv + d8 c t))), some (zi (nI (lv + d8 c t))), none, some (zi (nI kv)), some (zi (nI t)), some (zi (nI (d8 c t))), none, none, none] w1) Q := by
    rw [e_L_stands_95]
    refine Wn.eq hh ?_
    refine Wn.neg (by rw [jlt0 (by omega)]; exact id) ?_
    refine Wn.chk (by omega) (by decide) ?_
    simp (disch := omega) only [jcl, eL, jlt, jle, jchk, jor, jl, nI_add, jmul]
    refine Wn.neg (by omega) ?_
    by_cases hlt : d8 c t < g.2.1.1 t
    · have eP := PA_P hA s1 ht hlt
      have hp := P_lt hW ht hlt
      refine Wn.neg (by omega) ?_
      rw [eP]
      refine Wn.pos ?_ h1
      rw [jshr (by decide) (by omega), jeq (by omega) (by decide)]
      by_cases h2 : g.2.1.2.1 t (d8 c t) / 4 = 2
      · exact h2
      · exfalso
        have : goS g.2.1.1 g.2.1.2.1 (d8 c) t = true := goS_iff.mpr ⟨hlt, fun z => absurd z h2⟩
        rw [hgo] at this
        cases this
    · exact Wn.pos (by omega) h1
  simp (disch := omega) only [jl, jchk, jcl, eL, jle, nI_add, jmul, jshl, Nat.one_mul]
  by_cases hlt : d8 c t < g.2.1.1 t
  · rw [if_pos hlt] at fin
    exact Wn.neg (by omega) fin
  · rw [if_neg hlt] at fin
    exact Wn.pos (by omega) fin
/-- what the loop over the deadlocks knows -/
def Sh (L : Nat → Nat) (P : Nat → Nat → Nat) (i v : Nat) : Prop := (∀ c, c < 4096 → dB8 L P c = true → zsm (nd8 L P) c < i → v ≤ len4 (d8 c)) ∧ (v = 25 ∨ ∃ c, c < 4096 ∧ dB8 L P c = true ∧ len4 (d8 c) = v) ∧ v ≤ 25
def Bf (L : Nat → Nat) (P : Nat → Nat → Nat) (i : Nat) (x : Int32) : Prop := (i = 0 ∧ x = Int32.ofInt (-1)) ∨ ∃ c, c < 4096 ∧ dB8 L P c = true ∧ zsm (nd8 L P) c + 1 = i ∧ x = nI (code7 c)
theorem dB_idx {L : Nat → Nat} {P : Nat → Nat → Nat} {c : Nat} (hc : c < 4096) (hb : dB8 L P c = true) : zsm (nd8 L P) c < ndl L P := by
  have h3 := zsm_pre (f := nd8 L P) (show c + 1 ≤ 4096 from hc)
  rw [zsm] at h3
  have h4 : nd8 L P c = 1 := by unfold nd8; rw [hb]; rfl
  unfold ndl
  omega
theorem Sh_end {L : Nat → Nat} {P : Nat → Nat → Nat} (hW : WP L P) {v : Nat} (h : Sh L P (ndl L P) v) : (ndl L P = 0 → shN L P 2401 = none ∧ v = 25) ∧ (ndl L P ≠ 0 → shN L P 2401 = some v) := by
  obtain ⟨h1, h2, h3⟩ := h
  have img : ∀ c, c < 4096 → dB8 L P c = true → ∃ n, n < 2401 ∧ eN n = c ∧ dB7 L P n = true := fun c hc hb => by
    obtain ⟨n, hn, e⟩ := W8_img hW hc (dB8_W hb)
    refine ⟨n, hn, e, ?_⟩
    rw [← dB_eN hW hn, e]
    exact hb
  constructor
  · intro h0
    constructor
    · cases hs : shN L P 2401 with
      | none => rfl
      | some m =>
        exfalso
        obtain ⟨i, hi, hb, -⟩ := sh_in 2401 m (Nat.le_refl _) hs
        have := dB_idx (L := L) (P := P) (Nat.lt_trans (eN_lt hi) (by decide)) (by rw [dB_eN hW hi]; exact hb)
        omega
    · rcases h2 with h2 | ⟨c, hc, hb, -⟩
      · exact h2
      · have := dB_idx hc hb
        omega
  · intro h0
    obtain ⟨c, hc, hb, -⟩ := nd_ex (L := L) (P := P) (i := 0) 4096 (by show 0 < ndl L P; omega)
    obtain ⟨n, hn, e, hb7⟩ := img c hc hb
    obtain ⟨m, hs, hm⟩ := sh_min 2401 n hn hb7
    have hm24 := sh_lt 2401 m hs
    obtain ⟨i, hi, hbi, hl⟩ := sh_in 2401 m (Nat.le_refl _) hs
    have hi8 : eN i < 4096 := Nat.lt_trans (eN_lt hi) (by decide)
    have hbi8 : dB8 L P (eN i) = true := by rw [dB_eN hW hi]; exact hbi
    have hle := h1 (eN i) hi8 hbi8 (dB_idx hi8 hbi8)
    rw [eN_dig hi, hl] at hle
    rcases h2 with h2 | ⟨c', hc', hb', hl'⟩
    · omega
    · obtain ⟨n', hn', e', hb7'⟩ := img c' hc' hb'
      obtain ⟨m', hs', hm'⟩ := sh_min 2401 n' hn' hb7'
      rw [hs] at hs'
      have em : m = m' := Option.some.inj hs'
      rw [← e', eN_dig hn'] at hl'
      have e2 : m = v := by omega
      rw [hs, e2]
end SD
