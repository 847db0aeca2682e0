/-! program and exchange alike. -/
section PG
def chG (g : Gst) (L : Nat → Nat) (P : Nat → Nat → Nat) : Gst := (g.1, (L, P, 0, fun _ => 0), (recG g).2.2)
theorem VR_0 (L : Nat → Nat) (P : Nat → Nat → Nat) : VR L P 0 fun _ => 0 := ⟨by decide, fun i hi => absurd hi (Nat.not_lt_zero _), rfl⟩
theorem chG_GI {g : Gst} {L : Nat → Nat} {P : Nat → Nat → Nat} (hG : GI g) (hW : WP L P) (hE : WE L P) (hN : CN L P) : GI (chG g L P) :=
  ⟨hG.1, ⟨hW, hE, hN, VR_0 L P⟩, (recG_GI hG).2.2.1, hG.2.2.2⟩
theorem v_change {g : Gst} {w : Wd} {L : Nat → Nat} {P : Nat → Nat → Nat} (hG : GI g) (hC : CI w g) (hW : WP L P) (h9 : RP w 9 L P) : ∃ w', f_X7_changeProgramsToDraft 0 w = some w' ∧ Fr SCl w w' ∧ CI w' (chG g L P) ∧ RP w' 9 L P := by
  obtain ⟨w1, a1, a2, a3⟩ := v_record hG hC.1
  have r9 : RP w1 9 L P := a2.RP rfl rfl h9
  have f2 := Fr_copyP 0 9 w1
  have r0 := RP_copy (k0 := 0) r9 hW
  have e2 := v_copyFromP 0 9 w1
  generalize wC (wC w1 11 9 0 11 0 0 24) 12 9 0 12 0 0 4 = w2 at f2 r0 e2
  have f3 : Fr (SRg 0) w2 (wI w2 3 0 1 (nI 0)) := Fr.rf.wI (SRg_3 0)
  have f23 : Fr (SXg 0) w1 (wI w2 3 0 1 (nI 0)) := (f2.mono fun t i h => S2_l h).tr (f3.mono fun t i h => S2_r h)
  refine ⟨wI w2 3 0 1 (nI 0), ?_, (a2.sub sub_SHs).tr (f23.sub (sub_SX0 (by decide))), ⟨⟨PX_fr f23 rfl rfl a3.1, ⟨f3.RP rfl rfl r0, (by rw [jw1, if_pos ⟨rfl, rfl, rfl⟩]; rfl), fun i hi => absurd hi (Nat.not_lt_zero _)⟩, ⟨by rw [(f23 0 0 rfl).1]; exact a3.2.2.1.1, by rw [(f23 0 0 rfl).1]; exact a3.2.2.1.2.1, fun i hi => ?_⟩, fun j hj => ⟨by rw [(f23 22 0 rfl).1]; exact (a3.2.2.2 j hj).1, fun hb => ?_⟩⟩, CS_x (by decide) f23 (CS_h a2 hC.2)⟩, f23.RP rfl rfl r9⟩
  · rw [e_X7_changeProgramsToDraft, a1, joc, e2, joc, e_X3_clear, joc]
    simp only [jl]
  · obtain ⟨b1, b2, b3, b4⟩ := SXg_k (k := 0) (j := 1 + ((recG g).2.2.1.2.2 + i) % 6) (by omega)
    exact XS_fr f23 b1 b2 b3 b4 (a3.2.2.1.2.2 i hi)
  · obtain ⟨b1, b2, b3, b4⟩ := SXg_k (k := 0) (j := 7 + j) (by omega)
    exact XS_fr f23 b1 b2 b3 b4 ((a3.2.2.2 j hj).2 hb)
theorem hx_congr {P Q : Nat → Nat → Nat} {t : Nat} : ∀ k, (∀ i, i < k → P t i = Q t i) → hx P t k = hx Q t k
  | 0, _ => rfl
  | k + 1, h => by
    show hx P t k ^^^ hbit (P t k) = hx Q t k ^^^ hbit (Q t k)
    rw [hx_congr k (fun i hi => h i (by omega)), h k (by omega)]
theorem wl_congr {P Q : Nat → Nat → Nat} {t : Nat} : ∀ k, (∀ i, i < k → P t i = Q t i) → wl P t k = wl Q t k
  | 0, _ => rfl
  | k + 1, h => by
    rw [wl, wl, wl_congr k (fun i hi => h i (by omega))]
    unfold wk
    rw [hx_congr k (fun i hi => h i (by omega)), h k (by omega)]
/-! exchange -/
def xP (P : Nat → Nat → Nat) (t s u k : Nat) : Nat := if u = t ∧ k = s then P t (s + 1) else if u = t ∧ k = s + 1 then P t s else P u k
theorem sub_SPg9 : sub (SPg 9) SQ := sub_S2 (sub_S1 rfl) (sub_S1 rfl)
theorem v_exchange_64 {g : Gst} {w : Wd} (hG : GI g) (hC : CI w g) {t s : Nat} (ht : t < 4) (hs : s + 1 < g.2.1.1 t) (d : Nat) (hd : d < 2) : WP g.2.1.1 (xP g.2.1.2.1 t s) ∧ CN g.2.1.1 (xP g.2.1.2.1 t s) ∧
    ((wl (xP g.2.1.2.1 t s) t (g.2.1.1 t) = false ∧ ∃ w', x_X7_exchange 64 [zi (nI d)] [some (zr 7 0), some (zi (nI t)), some (zi (nI s)), none] w = some (Int32.ofInt (-5), w') ∧ Fr SCl w w' ∧ CI w' g) ∨
    (wl (xP g.2.1.2.1 t s) t (g.2.1.1 t) = true ∧ WE g.2.1.1 (xP g.2.1.2.1 t s) ∧ ∃ w', x_X7_exchange 64 [zi (nI d)] [some (zr 7 0), some (zi (nI t)), some (zi (nI s)), none] w = some (nI d, w') ∧ Fr SCl w w' ∧ CI w' (chG g g.2.1.1 (xP g.2.1.2.1 t s)))) := by
  obtain ⟨hW, hE, hN, hV⟩ := hG.2.1
  have hL := (hW t ht).1
  have hW' : WP g.2.1.1 (xP g.2.1.2.1 t s) := fun u hu => ⟨(hW u hu).1, fun k hk => by
    unfold xP
    split
    · exact (hW t ht).2 _ hs
    · split
      · exact (hW t ht).2 _ (by omega)
      · exact (hW u hu).2 k hk⟩
  have hN' : CN g.2.1.1 (xP g.2.1.2.1 t s) := ⟨hN.1, fun u k h => by
    unfold xP
    rw [if_neg (fun z => by rw [z.1, z.2] at h; omega), if_neg (fun z => by rw [z.1, z.2] at h; omega)]
    exact hN.2 u k h⟩
  refine ⟨hW', hN', ?_⟩
  have f1 := Fr_copyP 9 0 w
  have r1 := RP_copy (k0 := 9) hC.1.2.1.1 hW
  have e1 := v_copyFromP 9 0 w
  generalize wC (wC w 11 0 0 11 9 0 24) 12 0 0 12 9 0 4 = w1 at f1 r1 e1
  have f2 : Fr (SPg 9) w1 (wI (wI w1 11 9 (t * 6 + s) (nI (g.2.1.2.1 t (s + 1)))) 11 9 (t * 6 + s + 1) (nI (g.2.1.2.1 t s))) := (Fr.rf.wI (SPg_11 9)).wI (SPg_11 9)
  have c1 := r1.2 t s ht (by omega)
  have c2 := r1.2 t (s + 1) ht hs
  rw [show t * 6 + (s + 1) = t * 6 + s + 1 by omega] at c2
  have h1 := P_lt hW ht (show s < g.2.1.1 t by omega)
  have h2 := P_lt hW ht hs
  have e2 : f_X2_swapWithNext 9 (nI t) (nI s) w1 = some (wI (wI w1 11 9 (t * 6 + s) (nI (g.2.1.2.1 t (s + 1)))) 11 9 (t * 6 + s + 1) (nI (g.2.1.2.1 t s))) := by
    rw [e_X2_swapWithNext, v_stepOf r1 hW ht (by omega), joc, if_neg (show ¬ nI (g.2.1.2.1 t s) = Int32.ofInt (-1) by rw [jm1 (by omega)]; exact id)]
    simp only [jl, nI_add]
    rw [v_stepOf r1 hW ht hs, joc, if_neg (show ¬ nI (g.2.1.2.1 t (s + 1)) = Int32.ofInt (-1) by rw [jm1 (by omega)]; exact id)]
    simp (disch := omega) only [jmul, nI_add, jchk, jcl, c1, c2]
  have r2 : RP (wI (wI w1 11 9 (t * 6 + s) (nI (g.2.1.2.1 t (s + 1)))) 11 9 (t * 6 + s + 1) (nI (g.2.1.2.1 t s))) 9 g.2.1.1 (xP g.2.1.2.1 t s) := ⟨fun u hu => by rw [jw1, if_neg (by omega), jw1, if_neg (by omega)]; exact r1.1 u hu, fun u k hu hk => by
    have hLu := (hW u hu).1
    unfold xP
    rw [jw1, jw1]
    by_cases q1 : u = t ∧ k = s
    · rw [if_neg (by omega), if_pos ⟨rfl, rfl, by rw [q1.1, q1.2]⟩, if_pos q1]
    · by_cases q2 : u = t ∧ k = s + 1
      · rw [if_pos ⟨rfl, rfl, by rw [q2.1, q2.2]; omega⟩, if_neg q1, if_pos q2]
      · rw [if_neg (by omega), if_neg (by omega), if_neg q1, if_neg q2]
        exact r1.2 u k hu hk⟩
  have f12 : Fr (SPg 9) w _ := f1.tr f2
  generalize wI (wI w1 11 9 (t * 6 + s) (nI (g.2.1.2.1 t (s + 1)))) 11 9 (t * 6 + s + 1) (nI (g.2.1.2.1 t s)) = w2 at e2 r2 f12
  have hC2 : CI w2 g := ⟨CJ_q (f12.sub sub_SPg9) hC.1, CS_fr f12 rfl rfl rfl rfl rfl rfl hC.2⟩
  have e64 : x_X7_exchange 64 [zi (nI d)] [some (zr 7 0), some (zi (nI t)), some (zi (nI s)), none] w = (if wl (xP g.2.1.2.1 t s) t (g.2.1.1 t) = false then (some ((Int32.ofInt (-5)), w2)) else (oC (f_X7_changeProgramsToDraft 0 w2) fun q4 => (if nI d = 0 then (some ((Int32.ofInt 0), q4)) else (some ((Int32.ofInt 1), q4))))) := by
    rw [e_X7_exchange_64, e1, joc, e2, joc, v_isWell r2 hW' ht, joc]
    simp only [j01]
  have fq : Fr SCl w w2 := (f12.sub sub_SPg9).sub sub_SQ
  cases hw : wl (xP g.2.1.2.1 t s) t (g.2.1.1 t) with
  | false => exact Or.inl ⟨rfl, w2, by rw [e64, if_pos hw], fq, hC2⟩
  | true =>
    have hE' : WE g.2.1.1 (xP g.2.1.2.1 t s) := fun u hu => by
      by_cases e : u = t
      · rw [e]; exact hw
      · rw [← hE u hu]
        refine wl_congr _ fun i hi => ?_
        unfold xP
        rw [if_neg (fun z => e z.1), if_neg (fun z => e z.1)]
    obtain ⟨w3, d1, d2, d3, -⟩ := v_change hG hC2 hW' r2
    refine Or.inr ⟨rfl, hE', w3, ?_, fq.tr d2, d3⟩
    rw [e64, if_neg (by rw [hw]; decide), d1, joc]
    rcases (show d = 0 ∨ d = 1 by omega) with rfl | rfl
    · rw [if_pos (by rfl)]; rfl
    · rw [if_neg (by decide)]; rfl
end PG
