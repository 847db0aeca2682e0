/-! QUESTIONS ARE ANSWERED ALIKE. -/
section QA
theorem sub_tr {a b c : Nat → Nat → Bool} (h1 : sub a b) (h2 : sub b c) : sub a c := fun t i h => h1 t i (h2 t i h)
theorem sub_SMx : sub SMx SU := sub_S2 (fun t i h => by
  have : sub (S1 32 0) SU := sub_S1 rfl
  exact this t i h) (sub_S1 rfl)
theorem sub_S32 : sub S32 SU := fun t i h => by
  have : sub (S1 32 0) SU := sub_S1 rfl
  exact this t i h
theorem sub_STk : sub STk SU := sub_S2 (sub_S2 sub_S32 (sub_S1 rfl)) (sub_S2 (sub_S1 rfl) (sub_S1 rfl))
theorem sub_SO : sub SO SQ := sub_S2 (sub_S2 (sub_S1 rfl) (sub_S1 rfl)) (sub_S2 (sub_S1 rfl) (sub_S1 rfl))
/-! texts -/
theorem CJ_pad {w w' : Wd} (hf : Fr SPd w w') {g : Gst} {p' : Nat} {S' : Nat → Nat} (hP : PX w' p' S') (h : CJ w g) : CJ w' ((p', S'), g.2) :=
  ⟨hP, XS_fr hf rfl rfl rfl rfl h.2.1, ⟨by rw [(hf 0 0 rfl).1]; exact h.2.2.1.1, by rw [(hf 0 0 rfl).1]; exact h.2.2.1.2.1, fun i hi => XS_fr hf rfl rfl rfl rfl (h.2.2.1.2.2 i hi)⟩, fun j hj => ⟨by rw [(hf 22 0 rfl).1]; exact (h.2.2.2 j hj).1, fun hb => XS_fr hf rfl rfl rfl rfl ((h.2.2.2 j hj).2 hb)⟩⟩
theorem sub_SPd : sub SPd SCl := sub_S2 (sub_S1 rfl) (sub_S1 rfl)
theorem sub_SPm : sub SPm SMd := sub_S2 (sub_S1 rfl) (sub_S1 rfl)
end QA
