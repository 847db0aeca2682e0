/-! QUESTIONS ARE ANSWERED ALIKE. -/
section QA
theorem MI_RQ {w : Wd} {g : Gst} (h : MI w g) : RQ w 0 0 g.2.1.1 g.2.1.2.1 := h.2.1.1
theorem MI_KQ {w : Wd} {g : Gst} (h : MI w g) : KQ w g.2.1.2.2.1 g.2.1.2.2.2 := ⟨by have := h.2.1.2.1; rw [Nat.zero_add] at this; exact this, fun i hi => by have := h.2.1.2.2 i hi; rw [Nat.zero_add] at this; exact this⟩
theorem sub_tr {a b c : Nat → Nat → Bool} (h1 : sub a b) (h2 : sub b c) : sub a c := fun t i h => h1 t i (h2 t i h)
/-- a question that leaves the class's state as lookAt left it -/
theorem AL_look {α : Type} {fx fm : Wd → Option (α × Wd)} {S : Nat → Nat → Bool} (hS : sub S SU) (h80 : S 8 0 = false)
    (h : ∀ g w w1, GI g → f_X5_lookAt 0 0 w = some w1 → SPX w1 g.2.1.1 g.2.1.2.1 → ∃ v, fx w = some (v, w1) ∧ ∀ wm, RQ wm 0 0 g.2.1.1 g.2.1.2.1 → ∃ wm', fm wm = some (v, wm') ∧ Fr S wm wm') : AL fx fm := fun g w hG hC => by
  obtain ⟨w1, a1, a2, a3, a4, a5⟩ := look hG hC
  obtain ⟨v, b1, b2⟩ := h g w w1 hG a1 a4
  refine ⟨v, w1, g, b1, a2.sub sub_SQ, hG, a3, fun wm hM => ?_⟩
  obtain ⟨wm', c1, c2⟩ := b2 wm (MI_RQ hM)
  exact ⟨wm', c1, c2.sub (sub_tr hS sub_SU), MI_u (c2.sub hS) (by rw [(c2 8 0 h80).1]) (by rw [(c2 8 0 h80).1]) (by rw [(c2 8 0 h80).1]) hM⟩
theorem sub_SMx : sub SMx SU := sub_S2 (fun t i h => by
  have : sub (S1 32 0) SU := sub_S1 rfl
  exact this t i h) (sub_S1 rfl)
theorem sub_S32 : sub S32 SU := fun t i h => by
  have : sub (S1 32 0) SU := sub_S1 rfl
  exact this t i h
theorem al_stands (x : Int32) : AL (f_X7_stands 0 x) (f_X8_stands 0 x) := AL_look sub_SMx rfl fun g w w1 hG h1 h2 => q_stands hG.2.1.1 h1 h2 x
theorem al_deadlock (x y : Int32) : AL (f_X7_deadlock 0 x y) (f_X8_deadlock 0 x y) := AL_look sub_SMx rfl fun g w w1 hG h1 h2 => q_deadlock hG.2.1.1 h1 h2 x y
theorem al_runs (x : Int32) : AL (f_X7_runs 0 x) (f_X8_runs 0 x) := AL_look sub_SMx rfl fun g w w1 hG h1 h2 => q_runs hG.2.1.1 h1 h2 x
theorem al_sleeping (x : Int32) : AL (f_X7_sleeping 0 x) (f_X8_sleeping 0 x) := fun g w hG hC => by
  obtain ⟨w1, a1, a2, a3, a4, a5⟩ := look hG hC
  obtain ⟨v, w2, b1, b2, b3, b4, b5⟩ := q_sleeping hG.2.1.1 a1 a4 a5 x
  have sb : sub SWi SQ := sub_S2 (sub_S1 rfl) (sub_S1 rfl)
  refine ⟨v, w2, g, b1, (a2.tr (b2.sub sb)).sub sub_SQ, hG, ⟨CJ_q (b2.sub sb) a3.1, Or.inr ⟨_, _, hG.2.1.1, hG.2.1.2.2.1, b3, Or.inr b4⟩⟩, fun wm hM => ?_⟩
  obtain ⟨wm', c1, c2, c3⟩ := b5 wm (MI_RQ hM)
  have sm : sub SMs SU := sub_S2 sub_S32 (sub_S2 (sub_S2 (sub_S1 rfl) (sub_S1 rfl)) (sub_S1 rfl))
  exact ⟨wm', c1, c2.sub (sub_tr sm sub_SU), MI_u (c2.sub sm) (c3 2 (by decide)) (c3 4 (by decide)) (c3 7 (by decide)) hM⟩
theorem al_way (x : Int32) : AL (f_X7_wayToDeadlock 0 x) (f_X8_wayToDeadlock 0 x) := fun g w hG hC => by
  obtain ⟨w1, a1, a2, a3, a4, a5⟩ := look hG hC
  obtain ⟨v, w2, b1, b2, b3⟩ := q_way hG.2.1.1 a1 a4 x
  have sb : sub SWy SQ := sub_S2 (sub_S1 rfl) (sub_S2 (sub_S1 rfl) (sub_S1 rfl))
  have sm : sub SMw SU := sub_S2 sub_SMx (sub_S1 rfl)
  have hx : Fr SQ w w2 ∧ CI w2 g := by
    rcases b2 with b2 | b2
    · rw [b2]; exact ⟨Fr.rf, hC⟩
    · exact ⟨a2.tr (b2.sub sb), CJ_q (b2.sub sb) a3.1, CS_fr b2 rfl rfl rfl rfl rfl rfl a3.2⟩
  refine ⟨v, w2, g, b1, hx.1.sub sub_SQ, hG, hx.2, fun wm hM => ?_⟩
  obtain ⟨wm', c1, c2⟩ := b3 wm (MI_RQ hM)
  exact ⟨wm', c1, c2.sub (sub_tr sm sub_SU), MI_u (c2.sub sm) (by rw [(c2 8 0 rfl).1]) (by rw [(c2 8 0 rfl).1]) (by rw [(c2 8 0 rfl).1]) hM⟩
theorem RQ_53 {w w' : Wd} {L : Nat → Nat} {P : Nat → Nat → Nat} (hW : WP L P) (h : ∀ i, i < 53 → w'.1 30 0 i = w.1 30 0 i) (hR : RQ w 0 0 L P) : RQ w' 0 0 L P :=
  ⟨fun t ht => by rw [h _ (by omega)]; exact hR.1 t ht, fun t s ht hs => by
    have := (hW t ht).1
    rw [h _ (by omega)]
    exact hR.2 t s ht hs⟩
theorem MS_53 {w w' : Wd} {s : Stt} (hV : SV s) (h : ∀ i, i < 53 → w'.1 30 0 i = w.1 30 0 i) (hS : MS w 0 0 s) : MS w' 0 0 s :=
  ⟨RQ_53 hV.1 h hS.1, by rw [h _ (by decide)]; exact hS.2.1, fun j hj => by
    have := hV.2.2.2.1
    rw [h _ (by omega)]
    exact hS.2.2 j hj⟩
theorem al_without (x : Int32) : AL (f_X7_without 0 x) (f_X8_without 0 x) := fun g w hG hC => by
  obtain ⟨hW, hE, hN, hV⟩ := hG.2.1
  have sb : sub SWo SQ := sub_S2 (sub_S2 (sub_S1 rfl) (sub_S1 rfl)) (sub_S2 (sub_S1 rfl) (sub_S2 (sub_S2 (sub_S1 rfl) (sub_S1 rfl)) (sub_S2 (sub_S1 rfl) (sub_S2 (sub_S1 rfl) (sub_S1 rfl)))))
  have mdl : ∀ (v : Int32), (∀ wm, RQ wm 0 0 g.2.1.1 g.2.1.2.1 → ∃ wm', f_X8_without 0 x wm = some (v, wm') ∧ Fr SMo wm wm' ∧ ∀ i, i < 53 → wm'.1 30 0 i = wm.1 30 0 i) → ∀ wm, MI wm g → ∃ wm', f_X8_without 0 x wm = some (v, wm') ∧ Fr SMd wm wm' ∧ MI wm' g := fun v h wm hM => by
    obtain ⟨wm', c1, c2, c3⟩ := h wm (MI_RQ hM)
    have sm : sub SMo SMd := sub_S2 (sub_tr sub_SMx sub_SU) (sub_S2 (sub_S1 rfl) (sub_S1 rfl))
    refine ⟨wm', c1, c2.sub sm, ⟨by rw [(c2 8 0 rfl).1]; exact hM.1.1, fun i hi => by rw [(c2 31 0 rfl).1]; exact hM.1.2 i hi⟩, MS_53 hG.2.1 c3 hM.2.1, ⟨by rw [(c2 8 0 rfl).1]; exact hM.2.2.1.1, fun i hi => MS_fr c2 rfl (hM.2.2.1.2 i hi)⟩, by rw [(c2 8 0 rfl).1]; exact hM.2.2.2.1, fun j hj hb => MS_fr c2 rfl (hM.2.2.2.2 j hj hb)⟩
  have cls : ∀ (L' : Nat → Nat) (P' : Nat → Nat → Nat), (w.1 5 0 1 = nI 0 ∨ SPX w L' P' ∧ WP L' P' ∧ CN L' P') → (w.1 5 0 1 = nI 0 ∨ w.1 5 0 5 = nI 0 ∨ SLX w L' P') → ∃ v w' g', f_X7_without 0 x w = some (v, w') ∧ Fr SCl w w' ∧ GI g' ∧ CI w' g' ∧ ∀ wm, MI wm g → ∃ wm', f_X8_without 0 x wm = some (v, wm') ∧ Fr SMd wm wm' ∧ MI wm' g' := fun L' P' hS hL => by
    obtain ⟨v, w2, b1, b2, b3⟩ := q_without hW hE hC.1.2.1.1 hS x
    refine ⟨v, w2, g, b1, ?_, hG, ?_, mdl v b3⟩
    · rcases b2 with b2 | ⟨b2, -⟩
      · rw [b2]; exact Fr.rf
      · exact (b2.sub sb).sub sub_SQ
    · rcases b2 with b2 | ⟨b2, L2, P2, c1, c2, c3, c4⟩
      · rw [b2]; exact hC
      · refine ⟨CJ_q (b2.sub sb) hC.1, Or.inr ⟨L2, P2, c2, c3, c1, ?_⟩⟩
        rcases c4 with c4 | ⟨d1, d2, d3, d4⟩
        · exact Or.inl c4
        · rcases hL with hL | hL | hL
          · have := c1.2.2.2.2
            rw [d1, hL] at this
            exact absurd this (by decide)
          · left; rw [d1]; exact hL
          · right
            rw [d3, d4]
            exact ⟨⟨by rw [d2]; exact hL.1.1, by rw [d2]; exact hL.1.2⟩, by rw [d1]; exact hL.2.1, by rw [d1]; exact hL.2.2⟩
  rcases hC.2 with h0 | ⟨L', P', a, b, c, d⟩
  · exact cls g.2.1.1 g.2.1.2.1 (Or.inl h0) (Or.inl h0)
  · exact cls L' P' (Or.inr ⟨c, a, b⟩) (Or.inr d)
/-- a question about the kept run -/
theorem AL_run {α : Type} {fx fm : Wd → Option (α × Wd)} {S S' : Nat → Nat → Bool} (hS : sub S SU) (hS' : sub S' SQ) (h5 : S' 5 0 = false ∧ S' 11 10 = false ∧ S' 12 10 = false ∧ S' 18 0 = false ∧ S' 17 1 = false ∧ S' 14 1 = false)
    (h : ∀ (L : Nat → Nat) (P : Nat → Nat → Nat) (n : Nat) (R : Nat → Nat) (w : Wd), WP L P → VR L P n R → RP w 0 L P → RR w 0 n R → ∃ v w', fx w = some (v, w') ∧ Fr S' w w' ∧ ∀ wm, RQ wm 0 0 L P → KQ wm n R → ∃ wm', fm wm = some (v, wm') ∧ Fr S wm wm' ∧ S18 wm wm') : AL fx fm := fun g w hG hC => by
  obtain ⟨v, w', b1, b2, b3⟩ := h _ _ _ _ w hG.2.1.1 hG.2.1.2.2.2 hC.1.2.1.1 hC.1.2.1.2
  refine ⟨v, w', g, b1, (b2.sub hS').sub sub_SQ, hG, ⟨CJ_q (b2.sub hS') hC.1, CS_fr b2 h5.1 h5.2.1 h5.2.2.1 h5.2.2.2.1 h5.2.2.2.2.1 h5.2.2.2.2.2 hC.2⟩, fun wm hM => ?_⟩
  obtain ⟨wm', c1, c2, c3⟩ := b3 wm (MI_RQ hM) (MI_KQ hM)
  exact ⟨wm', c1, c2.sub (sub_tr hS sub_SU), MI_u (c2.sub hS) (c3.1 2 (by decide)) (c3.1 4 (by decide)) (c3.1 7 (by decide)) hM⟩
theorem sub_STk : sub STk SU := sub_S2 (sub_S2 sub_S32 (sub_S1 rfl)) (sub_S2 (sub_S1 rfl) (sub_S1 rfl))
theorem sub_SO : sub SO SQ := sub_S2 (sub_S2 (sub_S1 rfl) (sub_S1 rfl)) (sub_S2 (sub_S1 rfl) (sub_S1 rfl))
theorem al_chain : AL (f_X7_chain 0) (f_X8_chain 0) := AL_run (sub_S2 sub_STk (sub_S1 rfl)) sub_SO ⟨rfl, rfl, rfl, rfl, rfl, rfl⟩ fun L P n R w hW hV h1 h2 => q_chain hW hV h1 h2
theorem al_alikeRuns : AL (f_X7_alikeRuns 0) (f_X8_alikeRuns 0) := AL_run (sub_S2 sub_STk (sub_S1 rfl)) (sub_S2 sub_SO (sub_S1 rfl)) ⟨rfl, rfl, rfl, rfl, rfl, rfl⟩ fun L P n R w hW hV h1 h2 => q_alikeRuns hW hV h1 h2
theorem al_least (x : Int32) : AL (f_X7_least 0 x) (f_X8_least 0 x) := AL_run (sub_S2 sub_STk (sub_S2 (sub_S1 rfl) (sub_S1 rfl))) (sub_S2 sub_SO (sub_S2 (sub_S1 rfl) (sub_S1 rfl))) ⟨rfl, rfl, rfl, rfl, rfl, rfl⟩ fun L P n R w hW hV h1 h2 => q_least hW hV h1 h2 x
theorem al_lastWrite (x y : Int32) : AL (f_X7_lastWrite 0 x y) (f_X8_lastWrite 0 x y) := AL_run (S' := SO) sub_STk sub_SO ⟨rfl, rfl, rfl, rfl, rfl, rfl⟩ fun L P n R w hW hV h1 h2 => by
  obtain ⟨v, a, b⟩ := q_lastWrite hW hV h1 h2 x y
  exact ⟨v, w, a, Fr.rf, b⟩
/-! texts -/
theorem CJ_pad {w w' : Wd} (hf : Fr SPd w w') {g : Gst} {p' : Nat} {S' : Nat → Nat} (hP : PX w' p' S') (h : CJ w g) : CJ w' ((p', S'), g.2) :=
  ⟨hP, XS_fr hf rfl rfl rfl rfl h.2.1, ⟨by rw [(hf 0 0 rfl).1]; exact h.2.2.1.1, by rw [(hf 0 0 rfl).1]; exact h.2.2.1.2.1, fun i hi => XS_fr hf rfl rfl rfl rfl (h.2.2.1.2.2 i hi)⟩, fun j hj => ⟨by rw [(hf 22 0 rfl).1]; exact (h.2.2.2 j hj).1, fun hb => XS_fr hf rfl rfl rfl rfl ((h.2.2.2 j hj).2 hb)⟩⟩
theorem MI_pad {w w' : Wd} (hf : Fr SPm w w') (h7 : S07 w w') {g : Gst} {p' : Nat} {S' : Nat → Nat} (hP : PM w' p' S') (h : MI w g) : MI w' ((p', S'), g.2) :=
  ⟨hP, MS_fr hf rfl h.2.1, ⟨by rw [h7.1 2 (by decide)]; exact h.2.2.1.1, fun i hi => MS_fr hf rfl (h.2.2.1.2 i hi)⟩, by rw [h7.1 4 (by decide)]; exact h.2.2.2.1, fun j hj hb => MS_fr hf rfl (h.2.2.2.2 j hj hb)⟩
theorem sub_SPd : sub SPd SCl := sub_S2 (sub_S1 rfl) (sub_S1 rfl)
theorem sub_SPm : sub SPm SMd := sub_S2 (sub_S1 rfl) (sub_S1 rfl)
end QA
