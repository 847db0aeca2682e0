def bl_X0_size : ZBl := [(0, none, [(.aload_n 0, 1, 0, []), (.getfield 18, 3, 0, []), (.ireturn, 1, 0, [])])]
set_option maxRecDepth 20000 in
theorem bk_X0_size : zdb cX0_size 1 bl_X0_size = true := by decide +kernel
noncomputable def cm_X0_size (ρ : Type) : List (Nat × Nat × ZCall ρ) := []
theorem lf_X0_size (ρ : Type) : LfM (cm_X0_size ρ) := lfm_of lfm_n
noncomputable def x_X0_size : ZJ (Int32 × Wd) := zev cF_X0 cL_X0 bl_X0_size (cm_X0_size (Int32 × Wd)) rI
noncomputable def f_X0_size (k0 : Nat) (w : Wd) : Option (Int32 × Wd) := x_X0_size 0 [] [some (zr 0 k0)] w
noncomputable def g_X0_size (r : List ZV) (w : Wd) : Option (Int32 × Wd) := pR r fun tk0 k0 r => zif (Nat.beq tk0 0) (pE r (f_X0_size k0 w))
set_option maxRecDepth 20000 in
theorem e_X0_size (k0 : Nat) (w : Wd) : f_X0_size k0 w = (some ((w.1 0 k0 2), w)) := (zev_eq (lf_X0_size _) _ _ _ _).trans rfl
theorem k_X0_size : zLkV yX0_size cX0_size 1 (some .int) 0 0 := ⟨(tw2 (i := 90) rfl), (tw2 (i := 91) rfl), (tw1 (i := 6) rfl), (tw2 (i := 92) rfl), ⟨_, _, rfl⟩, rfl, by decide, by decide, by decide +kernel⟩
set_option maxHeartbeats 4000000 in
set_option maxRecDepth 20000 in
theorem a_X0_size {l : Launch} {D : va_G} {ad : Nat → Nat → Nat} {cA : Nat → ClassId} (hI : zInj ad) {ρ : Type} (X : ρ) : zAns l D ad cA yX0_size cX0_size 1 (some .int) 0 0 X (fun as => ∃ i as', as = zr 0 i :: as') (cI g_X0_size) := by
  intro as w Kf hv h
  obtain ⟨q, h1, h2⟩ := oC_inv h
  unfold g_X0_size at h1
  obtain ⟨tk0, k0, r, rfl, h1_1⟩ := pR_inv h1
  obtain ⟨bk0, h1_1z⟩ := zif_inv h1_1
  cases Nat.eq_of_beq_eq_true bk0
  obtain ⟨rfl, h3⟩ := pE_inv h1_1z
  exact ⟨_, _, ⟨_, _, rfl⟩, h2, trivial, zmeth (cM := cm_X0_size _) (bl := bl_X0_size) (ret := rI) hI (by decide) fl_X0 ll_X0 (lf_X0_size _) bk_X0_size (Nat.le_of_ble_eq_true rfl) hv (fun hF => zml_nil) (fun hF hr hk => zrt_I hF hr hk) h3⟩
def bl_X2_copyFrom : ZBl := [(0, none, [(.aload_n 1, 1, 0, []), (.getfield 9, 3, 0, []), (.iconst 0, 1, 0, []), (.aload_n 0, 1, 0, []), (.getfield 9, 3, 0, []), (.iconst 0, 1, 0, []), (.bipush 24, 2, 0, []), (.invokestatic 22, 3, 0, []), (.aload_n 1, 1, 0, []), (.getfield 15, 3, 0, []), (.iconst 0, 1, 0, []), (.aload_n 0, 1, 0, []), (.getfield 15, 3, 0, []), (.iconst 0, 1, 0, []), (.iconst 4, 1, 0, []), (.invokestatic 22, 3, 0, []), (.return_, 1, 0, [])])]
set_option maxRecDepth 20000 in
theorem bk_X2_copyFrom : zdb cX2_copyFrom 2 bl_X2_copyFrom = true := by decide +kernel
noncomputable def cm_X2_copyFrom (ρ : Type) : List (Nat × Nat × ZCall ρ) := [(45, 5, zCopy)]
theorem lf_X2_copyFrom (ρ : Type) : LfM (cm_X2_copyFrom ρ) := lfm_of (lfm_cons lfc_copy lfm_n)
noncomputable def x_X2_copyFrom : ZJ Wd := zev cF_X2 cL_X2 bl_X2_copyFrom (cm_X2_copyFrom Wd) rV
noncomputable def f_X2_copyFrom (k0 : Nat) (k1 : Nat) (w : Wd) : Option Wd := x_X2_copyFrom 0 [] [some (zr 2 k0), some (zr 2 k1)] w
noncomputable def g_X2_copyFrom (r : List ZV) (w : Wd) : Option Wd := pR r fun tk0 k0 r => zif (Nat.beq tk0 2) (pR r fun tk1 k1 r => zif (Nat.beq tk1 2) (pE r (f_X2_copyFrom k0 k1 w)))
set_option maxRecDepth 20000 in
theorem e_X2_copyFrom (k0 : Nat) (k1 : Nat) (w : Wd) : f_X2_copyFrom k0 k1 w = (if (Int32.ofInt 0) < 0 ∨ (Int32.ofInt 0) < 0 ∨ (Int32.ofInt 24) < 0 ∨ 24 < (Int32.ofInt 0).toNatClampNeg + (Int32.ofInt 24).toNatClampNeg ∨ 24 < (Int32.ofInt 0).toNatClampNeg + (Int32.ofInt 24).toNatClampNeg then none else (if (Int32.ofInt 0) < 0 ∨ (Int32.ofInt 0) < 0 ∨ (Int32.ofInt 4) < 0 ∨ 4 < (Int32.ofInt 0).toNatClampNeg + (Int32.ofInt 4).toNatClampNeg ∨ 4 < (Int32.ofInt 0).toNatClampNeg + (Int32.ofInt 4).toNatClampNeg then none else (some (wC (wC w 11 k1 (Int32.ofInt 0).toNatClampNeg 11 k0 (Int32.ofInt 0).toNatClampNeg (Int32.ofInt 24).toNatClampNeg) 12 k1 (Int32.ofInt 0).toNatClampNeg 12 k0 (Int32.ofInt 0).toNatClampNeg (Int32.ofInt 4).toNatClampNeg)))) := (zev_eq (lf_X2_copyFrom _) _ _ _ _).trans rfl
theorem k_X2_copyFrom : zLkV yX2_copyFrom cX2_copyFrom 2 none 2 1 := ⟨(tw1 (i := 239) rfl), (tw2 (i := 0) rfl), (tw1 (i := 4) rfl), (tw2 (i := 1) rfl), ⟨_, _, rfl⟩, rfl, by decide, by decide, by decide +kernel⟩
set_option maxHeartbeats 4000000 in
set_option maxRecDepth 20000 in
theorem a_X2_copyFrom {l : Launch} {D : va_G} {ad : Nat → Nat → Nat} {cA : Nat → ClassId} (hI : zInj ad) {ρ : Type} (X : ρ) : zAns l D ad cA yX2_copyFrom cX2_copyFrom 2 none 1 26 X (fun as => ∃ i as', as = zr 2 i :: as') (cV g_X2_copyFrom) := by
  intro as w Kf hv h
  obtain ⟨q, h1, h2⟩ := oC_inv h
  unfold g_X2_copyFrom at h1
  obtain ⟨tk0, k0, r, rfl, h1_1⟩ := pR_inv h1
  obtain ⟨bk0, h1_1z⟩ := zif_inv h1_1
  cases Nat.eq_of_beq_eq_true bk0
  obtain ⟨tk1, k1, r, rfl, h1_2⟩ := pR_inv h1_1z
  obtain ⟨bk1, h1_2z⟩ := zif_inv h1_2
  cases Nat.eq_of_beq_eq_true bk1
  obtain ⟨rfl, h3⟩ := pE_inv h1_2z
  exact ⟨_, _, ⟨_, _, rfl⟩, h2, trivial, zmeth (cM := cm_X2_copyFrom _) (bl := bl_X2_copyFrom) (ret := rV) hI (by decide) fl_X2 ll_X2 (lf_X2_copyFrom _) bk_X2_copyFrom (Nat.le_of_ble_eq_true rfl) hv (fun hF => (zml_cons (zcc hF rfl (tw2 (i := 2) rfl) ⟨by decide, by decide⟩) zml_nil)) (fun hF hr hk => zrt_V hF hr hk) h3⟩
def bl_X3_copyFrom : ZBl := [(0, none, [(.aload_n 1, 1, 0, []), (.getfield 9, 3, 0, []), (.iconst 0, 1, 0, []), (.aload_n 0, 1, 0, []), (.getfield 9, 3, 0, []), (.iconst 0, 1, 0, []), (.bipush 24, 2, 0, []), (.invokestatic 19, 3, 0, []), (.aload_n 0, 1, 0, []), (.aload_n 1, 1, 0, []), (.getfield 15, 3, 0, []), (.putfield 15, 3, 0, []), (.return_, 1, 0, [])])]
set_option maxRecDepth 20000 in
theorem bk_X3_copyFrom : zdb cX3_copyFrom 2 bl_X3_copyFrom = true := by decide +kernel
noncomputable def cm_X3_copyFrom (ρ : Type) : List (Nat × Nat × ZCall ρ) := [(39, 5, zCopy)]
theorem lf_X3_copyFrom (ρ : Type) : LfM (cm_X3_copyFrom ρ) := lfm_of (lfm_cons lfc_copy lfm_n)
noncomputable def x_X3_copyFrom : ZJ Wd := zev cF_X3 cL_X3 bl_X3_copyFrom (cm_X3_copyFrom Wd) rV
noncomputable def f_X3_copyFrom (k0 : Nat) (k1 : Nat) (w : Wd) : Option Wd := x_X3_copyFrom 0 [] [some (zr 3 k0), some (zr 3 k1)] w
noncomputable def g_X3_copyFrom (r : List ZV) (w : Wd) : Option Wd := pR r fun tk0 k0 r => zif (Nat.beq tk0 3) (pR r fun tk1 k1 r => zif (Nat.beq tk1 3) (pE r (f_X3_copyFrom k0 k1 w)))
set_option maxRecDepth 20000 in
theorem e_X3_copyFrom (k0 : Nat) (k1 : Nat) (w : Wd) : f_X3_copyFrom k0 k1 w = (if (Int32.ofInt 0) < 0 ∨ (Int32.ofInt 0) < 0 ∨ (Int32.ofInt 24) < 0 ∨ 24 < (Int32.ofInt 0).toNatClampNeg + (Int32.ofInt 24).toNatClampNeg ∨ 24 < (Int32.ofInt 0).toNatClampNeg + (Int32.ofInt 24).toNatClampNeg then none else (some (wI (wC w 13 k1 (Int32.ofInt 0).toNatClampNeg 13 k0 (Int32.ofInt 0).toNatClampNeg (Int32.ofInt 24).toNatClampNeg) 3 k0 1 ((wC w 13 k1 (Int32.ofInt 0).toNatClampNeg 13 k0 (Int32.ofInt 0).toNatClampNeg (Int32.ofInt 24).toNatClampNeg).1 3 k1 1)))) := (zev_eq (lf_X3_copyFrom _) _ _ _ _).trans rfl
theorem k_X3_copyFrom : zLkV yX3_copyFrom cX3_copyFrom 2 none 3 1 := ⟨(tw2 (i := 63) rfl), (tw2 (i := 64) rfl), (tw1 (i := 5) rfl), (tw2 (i := 65) rfl), ⟨_, _, rfl⟩, rfl, by decide, by decide, by decide +kernel⟩
set_option maxHeartbeats 4000000 in
set_option maxRecDepth 20000 in
theorem a_X3_copyFrom {l : Launch} {D : va_G} {ad : Nat → Nat → Nat} {cA : Nat → ClassId} (hI : zInj ad) {ρ : Type} (X : ρ) : zAns l D ad cA yX3_copyFrom cX3_copyFrom 2 none 1 26 X (fun as => ∃ i as', as = zr 3 i :: as') (cV g_X3_copyFrom) := by
  intro as w Kf hv h
  obtain ⟨q, h1, h2⟩ := oC_inv h
  unfold g_X3_copyFrom at h1
  obtain ⟨tk0, k0, r, rfl, h1_1⟩ := pR_inv h1
  obtain ⟨bk0, h1_1z⟩ := zif_inv h1_1
  cases Nat.eq_of_beq_eq_true bk0
  obtain ⟨tk1, k1, r, rfl, h1_2⟩ := pR_inv h1_1z
  obtain ⟨bk1, h1_2z⟩ := zif_inv h1_2
  cases Nat.eq_of_beq_eq_true bk1
  obtain ⟨rfl, h3⟩ := pE_inv h1_2z
  exact ⟨_, _, ⟨_, _, rfl⟩, h2, trivial, zmeth (cM := cm_X3_copyFrom _) (bl := bl_X3_copyFrom) (ret := rV) hI (by decide) fl_X3 ll_X3 (lf_X3_copyFrom _) bk_X3_copyFrom (Nat.le_of_ble_eq_true rfl) hv (fun hF => (zml_cons (zcc hF rfl (tw2 (i := 66) rfl) ⟨by decide, by decide⟩) zml_nil)) (fun hF hr hk => zrt_V hF hr hk) h3⟩
def bl_X6_copyFrom : ZBl := [(0, none, [(.aload_n 0, 1, 0, []), (.getfield 10, 3, 0, []), (.aload_n 1, 1, 0, []), (.getfield 10, 3, 0, []), (.invokevirtual 23, 3, 0, []), (.aload_n 0, 1, 0, []), (.getfield 19, 3, 0, []), (.aload_n 1, 1, 0, []), (.getfield 19, 3, 0, []), (.invokevirtual 27, 3, 0, []), (.return_, 1, 0, [])])]
set_option maxRecDepth 20000 in
theorem bk_X6_copyFrom : zdb cX6_copyFrom 2 bl_X6_copyFrom = true := by decide +kernel
noncomputable def cm_X6_copyFrom (ρ : Type) : List (Nat × Nat × ZCall ρ) := [(46, 2, cV g_X2_copyFrom), (54, 2, cV g_X3_copyFrom)]
theorem lf_X6_copyFrom (ρ : Type) : LfM (cm_X6_copyFrom ρ) := lfm_of (lfm_cons (lfc_V g_X2_copyFrom) (lfm_cons (lfc_V g_X3_copyFrom) lfm_n))
noncomputable def x_X6_copyFrom : ZJ Wd := zev cF_X6 cL_X6 bl_X6_copyFrom (cm_X6_copyFrom Wd) rV
noncomputable def f_X6_copyFrom (k0 : Nat) (k1 : Nat) (w : Wd) : Option Wd := x_X6_copyFrom 0 [] [some (zr 6 k0), some (zr 6 k1)] w
noncomputable def g_X6_copyFrom (r : List ZV) (w : Wd) : Option Wd := pR r fun tk0 k0 r => zif (Nat.beq tk0 6) (pR r fun tk1 k1 r => zif (Nat.beq tk1 6) (pE r (f_X6_copyFrom k0 k1 w)))
set_option maxRecDepth 20000 in
theorem e_X6_copyFrom (k0 : Nat) (k1 : Nat) (w : Wd) : f_X6_copyFrom k0 k1 w = (oC (f_X2_copyFrom k0 k1 w) fun q1 => (oC (f_X3_copyFrom k0 k1 q1) fun q2 => (some q2))) := (zev_eq (lf_X6_copyFrom _) _ _ _ _).trans rfl
theorem k_X6_copyFrom : zLkV yX6_copyFrom cX6_copyFrom 2 none 6 1 := ⟨(tw2 (i := 58) rfl), (tw2 (i := 59) rfl), (tw1 (i := 3) rfl), (tw2 (i := 60) rfl), ⟨_, _, rfl⟩, rfl, by decide, by decide, by decide +kernel⟩
set_option maxHeartbeats 4000000 in
set_option maxRecDepth 20000 in
theorem a_X6_copyFrom {l : Launch} {D : va_G} {ad : Nat → Nat → Nat} {cA : Nat → ClassId} (hI : zInj ad) {ρ : Type} (X : ρ) : zAns l D ad cA yX6_copyFrom cX6_copyFrom 2 none 2 47 X (fun as => ∃ i as', as = zr 6 i :: as') (cV g_X6_copyFrom) := by
  intro as w Kf hv h
  obtain ⟨q, h1, h2⟩ := oC_inv h
  unfold g_X6_copyFrom at h1
  obtain ⟨tk0, k0, r, rfl, h1_1⟩ := pR_inv h1
  obtain ⟨bk0, h1_1z⟩ := zif_inv h1_1
  cases Nat.eq_of_beq_eq_true bk0
  obtain ⟨tk1, k1, r, rfl, h1_2⟩ := pR_inv h1_1z
  obtain ⟨bk1, h1_2z⟩ := zif_inv h1_2
  cases Nat.eq_of_beq_eq_true bk1
  obtain ⟨rfl, h3⟩ := pE_inv h1_2z
  exact ⟨_, _, ⟨_, _, rfl⟩, h2, trivial, zmeth (cM := cm_X6_copyFrom _) (bl := bl_X6_copyFrom) (ret := rV) hI (by decide) fl_X6 ll_X6 (lf_X6_copyFrom _) bk_X6_copyFrom (Nat.le_of_ble_eq_true rfl) hv (fun hF => (zml_cons (zcv hF ⟨Nat.le_refl _, Nat.le_refl _⟩ rfl (tw2 (i := 61) rfl) k_X2_copyFrom ⟨by decide, by decide⟩ (a_X2_copyFrom hI _)) (zml_cons (zcv hF ⟨Nat.le_refl _, Nat.le_refl _⟩ rfl (tw2 (i := 62) rfl) k_X3_copyFrom ⟨by decide, by decide⟩ (a_X3_copyFrom hI _)) zml_nil))) (fun hF hr hk => zrt_V hF hr hk) h3⟩
def bl_X0_record : ZBl := [(0, none, [(.aload_n 0, 1, 0, []), (.getfield 11, 3, 0, []), (.aload_n 0, 1, 0, []), (.getfield 22, 3, 0, []), (.aload_n 0, 1, 0, []), (.getfield 18, 3, 0, []), (.iadd, 1, 0, []), (.bipush 6, 2, 0, []), (.irem, 1, 0, []), (.aaload, 1, 0, []), (.aload_n 1, 1, 0, []), (.invokevirtual 25, 3, 0, []), (.aload_n 0, 1, 0, []), (.getfield 18, 3, 0, []), (.bipush 6, 2, 0, []), (.if_icmp .ge 16, 3, 43, [])]), (30, none, [(.aload_n 0, 1, 0, []), (.dup, 1, 0, []), (.getfield 18, 3, 0, []), (.iconst 1, 1, 0, []), (.iadd, 1, 0, []), (.putfield 18, 3, 0, []), (.goto 16, 3, 56, [])]), (43, none, [(.aload_n 0, 1, 0, []), (.aload_n 0, 1, 0, []), (.getfield 22, 3, 0, []), (.iconst 1, 1, 0, []), (.iadd, 1, 0, []), (.bipush 6, 2, 0, []), (.irem, 1, 0, []), (.putfield 22, 3, 0, [])]), (56, none, [(.return_, 1, 0, [])])]
set_option maxRecDepth 20000 in
theorem bk_X0_record : zdb cX0_record 2 bl_X0_record = true := by decide +kernel
noncomputable def cm_X0_record (ρ : Type) : List (Nat × Nat × ZCall ρ) := [(50, 2, cV g_X6_copyFrom)]
theorem lf_X0_record (ρ : Type) : LfM (cm_X0_record ρ) := lfm_of (lfm_cons (lfc_V g_X6_copyFrom) lfm_n)
noncomputable def x_X0_record : ZJ Wd := zev cF_X0 cL_X0 bl_X0_record (cm_X0_record Wd) rV
noncomputable def f_X0_record (k0 : Nat) (k1 : Nat) (w : Wd) : Option Wd := x_X0_record 0 [] [some (zr 0 k0), some (zr 6 k1)] w
noncomputable def g_X0_record (r : List ZV) (w : Wd) : Option Wd := pR r fun tk0 k0 r => zif (Nat.beq tk0 0) (pR r fun tk1 k1 r => zif (Nat.beq tk1 6) (pE r (f_X0_record k0 k1 w)))
set_option maxRecDepth 20000 in
theorem e_X0_record (k0 : Nat) (k1 : Nat) (w : Wd) : f_X0_record k0 k1 w = (if (Int32.ofInt 6) = 0 then none else (chk (((w.1 0 k0 1) + (w.1 0 k0 2)) - ((w.1 0 k0 1) + (w.1 0 k0 2)) / (Int32.ofInt 6) * (Int32.ofInt 6)) 6 (oC (f_X6_copyFrom (1 + (((w.1 0 k0 1) + (w.1 0 k0 2)) - ((w.1 0 k0 1) + (w.1 0 k0 2)) / (Int32.ofInt 6) * (Int32.ofInt 6)).toNatClampNeg) k1 w) fun q1 => (if (Int32.ofInt 6) ≤ (q1.1 0 k0 2) then (if (Int32.ofInt 6) = 0 then none else (some (wI q1 0 k0 1 (((q1.1 0 k0 1) + (Int32.ofInt 1)) - ((q1.1 0 k0 1) + (Int32.ofInt 1)) / (Int32.ofInt 6) * (Int32.ofInt 6))))) else (some (wI q1 0 k0 2 ((q1.1 0 k0 2) + (Int32.ofInt 1)))))))) := (zev_eq (lf_X0_record _) _ _ _ _).trans rfl
theorem k_X0_record : zLkV yX0_record cX0_record 2 none 0 1 := ⟨(tw2 (i := 54) rfl), (tw2 (i := 55) rfl), (tw1 (i := 6) rfl), (tw2 (i := 56) rfl), ⟨_, _, rfl⟩, rfl, by decide, by decide, by decide +kernel⟩
set_option maxHeartbeats 4000000 in
set_option maxRecDepth 20000 in
theorem a_X0_record {l : Launch} {D : va_G} {ad : Nat → Nat → Nat} {cA : Nat → ClassId} (hI : zInj ad) {ρ : Type} (X : ρ) : zAns l D ad cA yX0_record cX0_record 2 none 3 68 X (fun as => ∃ i as', as = zr 0 i :: as') (cV g_X0_record) := by
  intro as w Kf hv h
  obtain ⟨q, h1, h2⟩ := oC_inv h
  unfold g_X0_record at h1
  obtain ⟨tk0, k0, r, rfl, h1_1⟩ := pR_inv h1
  obtain ⟨bk0, h1_1z⟩ := zif_inv h1_1
  cases Nat.eq_of_beq_eq_true bk0
  obtain ⟨tk1, k1, r, rfl, h1_2⟩ := pR_inv h1_1z
  obtain ⟨bk1, h1_2z⟩ := zif_inv h1_2
  cases Nat.eq_of_beq_eq_true bk1
  obtain ⟨rfl, h3⟩ := pE_inv h1_2z
  exact ⟨_, _, ⟨_, _, rfl⟩, h2, trivial, zmeth (cM := cm_X0_record _) (bl := bl_X0_record) (ret := rV) hI (by decide) fl_X0 ll_X0 (lf_X0_record _) bk_X0_record (Nat.le_of_ble_eq_true rfl) hv (fun hF => (zml_cons (zcv hF ⟨Nat.le_refl _, Nat.le_refl _⟩ rfl (tw2 (i := 57) rfl) k_X6_copyFrom ⟨by decide, by decide⟩ (a_X6_copyFrom hI _)) zml_nil)) (fun hF hr hk => zrt_V hF hr hk) h3⟩
def bl_X0_takeBackInto : ZBl := [(0, none, [(.aload_n 0, 1, 0, []), (.getfield 18, 3, 0, []), (.ifCond .le 34, 3, 38, [])]), (7, none, [(.aload_n 0, 1, 0, []), (.dup, 1, 0, []), (.getfield 18, 3, 0, []), (.iconst 1, 1, 0, []), (.isub, 1, 0, []), (.putfield 18, 3, 0, []), (.aload_n 1, 1, 0, []), (.aload_n 0, 1, 0, []), (.getfield 11, 3, 0, []), (.aload_n 0, 1, 0, []), (.getfield 22, 3, 0, []), (.aload_n 0, 1, 0, []), (.getfield 18, 3, 0, []), (.iadd, 1, 0, []), (.bipush 6, 2, 0, []), (.irem, 1, 0, []), (.aaload, 1, 0, []), (.invokevirtual 25, 3, 0, [])]), (38, none, [(.return_, 1, 0, [])])]
set_option maxRecDepth 20000 in
theorem bk_X0_takeBackInto : zdb cX0_takeBackInto 2 bl_X0_takeBackInto = true := by decide +kernel
noncomputable def cm_X0_takeBackInto (ρ : Type) : List (Nat × Nat × ZCall ρ) := [(50, 2, cV g_X6_copyFrom)]
theorem lf_X0_takeBackInto (ρ : Type) : LfM (cm_X0_takeBackInto ρ) := lfm_of (lfm_cons (lfc_V g_X6_copyFrom) lfm_n)
noncomputable def x_X0_takeBackInto : ZJ Wd := zev cF_X0 cL_X0 bl_X0_takeBackInto (cm_X0_takeBackInto Wd) rV
noncomputable def f_X0_takeBackInto (k0 : Nat) (k1 : Nat) (w : Wd) : Option Wd := x_X0_takeBackInto 0 [] [some (zr 0 k0), some (zr 6 k1)] w
noncomputable def g_X0_takeBackInto (r : List ZV) (w : Wd) : Option Wd := pR r fun tk0 k0 r => zif (Nat.beq tk0 0) (pR r fun tk1 k1 r => zif (Nat.beq tk1 6) (pE r (f_X0_takeBackInto k0 k1 w)))
set_option maxRecDepth 20000 in
theorem e_X0_takeBackInto (k0 : Nat) (k1 : Nat) (w : Wd) : f_X0_takeBackInto k0 k1 w = (if (w.1 0 k0 2) ≤ 0 then (some w) else (if (Int32.ofInt 6) = 0 then none else (chk ((((wI w 0 k0 2 ((w.1 0 k0 2) - (Int32.ofInt 1))).1 0 k0 1) + ((wI w 0 k0 2 ((w.1 0 k0 2) - (Int32.ofInt 1))).1 0 k0 2)) - (((wI w 0 k0 2 ((w.1 0 k0 2) - (Int32.ofInt 1))).1 0 k0 1) + ((wI w 0 k0 2 ((w.1 0 k0 2) - (Int32.ofInt 1))).1 0 k0 2)) / (Int32.ofInt 6) * (Int32.ofInt 6)) 6 (oC (f_X6_copyFrom k1 (1 + ((((wI w 0 k0 2 ((w.1 0 k0 2) - (Int32.ofInt 1))).1 0 k0 1) + ((wI w 0 k0 2 ((w.1 0 k0 2) - (Int32.ofInt 1))).1 0 k0 2)) - (((wI w 0 k0 2 ((w.1 0 k0 2) - (Int32.ofInt 1))).1 0 k0 1) + ((wI w 0 k0 2 ((w.1 0 k0 2) - (Int32.ofInt 1))).1 0 k0 2)) / (Int32.ofInt 6) * (Int32.ofInt 6)).toNatClampNeg) (wI w 0 k0 2 ((w.1 0 k0 2) - (Int32.ofInt 1)))) fun q1 => (some q1))))) := (zev_eq (lf_X0_takeBackInto _) _ _ _ _).trans rfl
theorem k_X0_takeBackInto : zLkV yX0_takeBackInto cX0_takeBackInto 2 none 0 1 := ⟨(tw3 (i := 82) rfl), (tw3 (i := 83) rfl), (tw1 (i := 6) rfl), (tw3 (i := 84) rfl), ⟨_, _, rfl⟩, rfl, by decide, by decide, by decide +kernel⟩
set_option maxHeartbeats 4000000 in
set_option maxRecDepth 20000 in
theorem a_X0_takeBackInto {l : Launch} {D : va_G} {ad : Nat → Nat → Nat} {cA : Nat → ClassId} (hI : zInj ad) {ρ : Type} (X : ρ) : zAns l D ad cA yX0_takeBackInto cX0_takeBackInto 2 none 3 68 X (fun as => ∃ i as', as = zr 0 i :: as') (cV g_X0_takeBackInto) := by
  intro as w Kf hv h
  obtain ⟨q, h1, h2⟩ := oC_inv h
  unfold g_X0_takeBackInto at h1
  obtain ⟨tk0, k0, r, rfl, h1_1⟩ := pR_inv h1
  obtain ⟨bk0, h1_1z⟩ := zif_inv h1_1
  cases Nat.eq_of_beq_eq_true bk0
  obtain ⟨tk1, k1, r, rfl, h1_2⟩ := pR_inv h1_1z
  obtain ⟨bk1, h1_2z⟩ := zif_inv h1_2
  cases Nat.eq_of_beq_eq_true bk1
  obtain ⟨rfl, h3⟩ := pE_inv h1_2z
  exact ⟨_, _, ⟨_, _, rfl⟩, h2, trivial, zmeth (cM := cm_X0_takeBackInto _) (bl := bl_X0_takeBackInto) (ret := rV) hI (by decide) fl_X0 ll_X0 (lf_X0_takeBackInto _) bk_X0_takeBackInto (Nat.le_of_ble_eq_true rfl) hv (fun hF => (zml_cons (zcv hF ⟨Nat.le_refl _, Nat.le_refl _⟩ rfl (tw2 (i := 57) rfl) k_X6_copyFrom ⟨by decide, by decide⟩ (a_X6_copyFrom hI _)) zml_nil)) (fun hF hr hk => zrt_V hF hr hk) h3⟩
def bl_X1_signIn : ZBl := [(0, none, [(.lload_n 0, 1, 0, []), (.bipush 8, 2, 0, []), (.iload_n 2, 1, 0, []), (.imul, 1, 0, []), (.lushr, 1, 0, []), (.ldc2_w 19, 3, 0, []), (.land, 1, 0, []), (.l2i, 1, 0, []), (.ireturn, 1, 0, [])])]
set_option maxRecDepth 20000 in
theorem bk_X1_signIn : zdb cX1_signIn 3 bl_X1_signIn = true := by decide +kernel
noncomputable def cm_X1_signIn (ρ : Type) : List (Nat × Nat × ZCall ρ) := []
theorem lf_X1_signIn (ρ : Type) : LfM (cm_X1_signIn ρ) := lfm_of lfm_n
noncomputable def x_X1_signIn : ZJ (Int32 × Wd) := zev cF_X1 cL_X1 bl_X1_signIn (cm_X1_signIn (Int32 × Wd)) rI
noncomputable def f_X1_signIn (y0 : Int64) (x2 : Int32) (w : Wd) : Option (Int32 × Wd) := x_X1_signIn 0 [] [some (zl y0), none, some (zi x2)] w
noncomputable def g_X1_signIn (r : List ZV) (w : Wd) : Option (Int32 × Wd) := pL r fun y0 r => pI r fun x2 r => pE r (f_X1_signIn y0 x2 w)
set_option maxRecDepth 20000 in
theorem e_X1_signIn (y0 : Int64) (x2 : Int32) (w : Wd) : f_X1_signIn y0 x2 w = (some (((y0.toUInt64 >>> (((Int32.ofInt 8) * x2).toInt64.toUInt64 &&& Int64.toUInt64 63)).toInt64 &&& (255 : Int64)).toInt32, w)) := (zev_eq (lf_X1_signIn _) _ _ _ _).trans rfl
theorem k_X1_signIn : zLkS yX1_signIn cX1_signIn 3 (some .int) 2 := ⟨(tw3 (i := 119) rfl), (tw1 (i := 2) rfl), (tw3 (i := 120) rfl), by decide, by decide, by decide +kernel⟩
set_option maxHeartbeats 4000000 in
set_option maxRecDepth 20000 in
theorem a_X1_signIn {l : Launch} {D : va_G} {ad : Nat → Nat → Nat} {cA : Nat → ClassId} (hI : zInj ad) {ρ : Type} (X : ρ) : zAns l D ad cA yX1_signIn cX1_signIn 3 (some .int) 0 0 X (fun _ => True) (cI g_X1_signIn) := by
  intro as w Kf hv h
  obtain ⟨q, h1, h2⟩ := oC_inv h
  unfold g_X1_signIn at h1
  obtain ⟨y0, r, rfl, h1_1⟩ := pL_inv h1
  obtain ⟨x2, r, rfl, h1_2⟩ := pI_inv h1_1
  obtain ⟨rfl, h3⟩ := pE_inv h1_2
  exact ⟨_, _, trivial, h2, trivial, zmeth (cM := cm_X1_signIn _) (bl := bl_X1_signIn) (ret := rI) hI (by decide) fl_X1 ll_X1 (lf_X1_signIn _) bk_X1_signIn (Nat.le_of_ble_eq_true rfl) hv (fun hF => zml_nil) (fun hF hr hk => zrt_I hF hr hk) h3⟩
def bl_X1_charactersIn : ZBl := [(0, none, [(.iconst 0, 1, 0, []), (.istore_n 2, 1, 0, [])]), (2, some [true, false, true], [(.iload_n 2, 1, 0, []), (.bipush 8, 2, 0, []), (.if_icmp .ge 39, 3, 44, [])]), (8, none, [(.lload_n 0, 1, 0, []), (.iload_n 2, 1, 0, []), (.invokestatic 15, 3, 0, []), (.ifCond .eq 31, 3, 44, [])]), (16, none, [(.lload_n 0, 1, 0, []), (.iload_n 2, 1, 0, []), (.invokestatic 15, 3, 0, []), (.bipush 33, 2, 0, []), (.if_icmp .lt 13, 3, 36, [])]), (26, none, [(.lload_n 0, 1, 0, []), (.iload_n 2, 1, 0, []), (.invokestatic 15, 3, 0, []), (.bipush 126, 2, 0, []), (.if_icmp .le 5, 3, 38, [])]), (36, none, [(.iconst 0, 1, 0, []), (.ireturn, 1, 0, [])]), (38, none, [(.iinc 2 1, 3, 0, []), (.goto (-39), 3, 2, [])]), (44, some [true, false, true], [(.iload_n 2, 1, 0, []), (.bipush 8, 2, 0, []), (.if_icmp .ge 16, 3, 63, [])]), (50, none, [(.lload_n 0, 1, 0, []), (.bipush 8, 2, 0, []), (.iload_n 2, 1, 0, []), (.imul, 1, 0, []), (.lushr, 1, 0, []), (.lconst 0, 1, 0, []), (.lcmp, 1, 0, []), (.ifCond .eq 5, 3, 63, [])]), (61, none, [(.iconst 0, 1, 0, []), (.ireturn, 1, 0, [])]), (63, none, [(.iload_n 2, 1, 0, []), (.ireturn, 1, 0, [])])]
set_option maxRecDepth 20000 in
theorem bk_X1_charactersIn : zdb cX1_charactersIn 3 bl_X1_charactersIn = true := by decide +kernel
noncomputable def cm_X1_charactersIn (ρ : Type) : List (Nat × Nat × ZCall ρ) := [(31, 2, cI g_X1_signIn)]
theorem lf_X1_charactersIn (ρ : Type) : LfM (cm_X1_charactersIn ρ) := lfm_of (lfm_cons (lfc_I g_X1_signIn) lfm_n)
noncomputable def x_X1_charactersIn : ZJ (Int32 × Wd) := zev cF_X1 cL_X1 bl_X1_charactersIn (cm_X1_charactersIn (Int32 × Wd)) rI
noncomputable def f_X1_charactersIn (y0 : Int64) (w : Wd) : Option (Int32 × Wd) := x_X1_charactersIn 0 [] [some (zl y0), none, none] w
noncomputable def g_X1_charactersIn (r : List ZV) (w : Wd) : Option (Int32 × Wd) := pL r fun y0 r => pE r (f_X1_charactersIn y0 w)
set_option maxRecDepth 20000 in
theorem e_X1_charactersIn (y0 : Int64) (w : Wd) : f_X1_charactersIn y0 w = (x_X1_charactersIn 2 [] [some (zl y0), none, some (zi (Int32.ofInt 0))] w) := (zev_eq (lf_X1_charactersIn _) _ _ _ _).trans rfl
set_option maxRecDepth 20000 in
theorem e_X1_charactersIn_2 (y0 : Int64) (x2 : Int32) (w : Wd) : x_X1_charactersIn 2 [] [some (zl y0), none, some (zi x2)] w = (if (Int32.ofInt 8) ≤ x2 then (x_X1_charactersIn 44 [] [some (zl y0), none, some (zi x2)] w) else (oC (f_X1_signIn y0 x2 w) fun q1 => (if q1.1 = 0 then (x_X1_charactersIn 44 [] [some (zl y0), none, some (zi x2)] q1.2) else (oC (f_X1_signIn y0 x2 q1.2) fun q2 => (if q2.1 < (Int32.ofInt 33) then (some ((Int32.ofInt 0), q2.2)) else (oC (f_X1_signIn y0 x2 q2.2) fun q3 => (if q3.1 ≤ (Int32.ofInt 126) then (x_X1_charactersIn 2 [] [some (zl y0), none, some (zi (x2 + (Int32.ofInt 1)))] q3.2) else (some ((Int32.ofInt 0), q3.2))))))))) := (zev_eq (lf_X1_charactersIn _) _ _ _ _).trans rfl
set_option maxRecDepth 20000 in
theorem e_X1_charactersIn_44 (y0 : Int64) (x2 : Int32) (w : Wd) : x_X1_charactersIn 44 [] [some (zl y0), none, some (zi x2)] w = (if (Int32.ofInt 8) ≤ x2 then (some (x2, w)) else (if (lg_cmp (y0.toUInt64 >>> (((Int32.ofInt 8) * x2).toInt64.toUInt64 &&& Int64.toUInt64 63)).toInt64 (Int64.ofInt 0)) = 0 then (some (x2, w)) else (some ((Int32.ofInt 0), w)))) := (zev_eq (lf_X1_charactersIn _) _ _ _ _).trans rfl
theorem k_X1_charactersIn : zLkS yX1_charactersIn cX1_charactersIn 3 (some .int) 1 := ⟨(tw3 (i := 116) rfl), (tw1 (i := 2) rfl), (tw3 (i := 117) rfl), by decide, by decide, by decide +kernel⟩
set_option maxHeartbeats 4000000 in
set_option maxRecDepth 20000 in
theorem a_X1_charactersIn {l : Launch} {D : va_G} {ad : Nat → Nat → Nat} {cA : Nat → ClassId} (hI : zInj ad) {ρ : Type} (X : ρ) : zAns l D ad cA yX1_charactersIn cX1_charactersIn 3 (some .int) 1 22 X (fun _ => True) (cI g_X1_charactersIn) := by
  intro as w Kf hv h
  obtain ⟨q, h1, h2⟩ := oC_inv h
  unfold g_X1_charactersIn at h1
  obtain ⟨y0, r, rfl, h1_1⟩ := pL_inv h1
  obtain ⟨rfl, h3⟩ := pE_inv h1_1
  exact ⟨_, _, trivial, h2, trivial, zmeth (cM := cm_X1_charactersIn _) (bl := bl_X1_charactersIn) (ret := rI) hI (by decide) fl_X1 ll_X1 (lf_X1_charactersIn _) bk_X1_charactersIn (Nat.le_of_ble_eq_true rfl) hv (fun hF => (zml_cons (zcs hF ⟨Nat.le_refl _, Nat.le_refl _⟩ rfl (tw3 (i := 118) rfl) k_X1_signIn ⟨by decide, by decide⟩ (a_X1_signIn hI _)) zml_nil)) (fun hF hr hk => zrt_I hF hr hk) h3⟩
def bl_X1_length : ZBl := [(0, none, [(.aload_n 0, 1, 0, []), (.getfield 21, 3, 0, []), (.ireturn, 1, 0, [])])]
set_option maxRecDepth 20000 in
theorem bk_X1_length : zdb cX1_length 1 bl_X1_length = true := by decide +kernel
noncomputable def cm_X1_length (ρ : Type) : List (Nat × Nat × ZCall ρ) := []
theorem lf_X1_length (ρ : Type) : LfM (cm_X1_length ρ) := lfm_of lfm_n
noncomputable def x_X1_length : ZJ (Int32 × Wd) := zev cF_X1 cL_X1 bl_X1_length (cm_X1_length (Int32 × Wd)) rI
noncomputable def f_X1_length (k0 : Nat) (w : Wd) : Option (Int32 × Wd) := x_X1_length 0 [] [some (zr 1 k0)] w
noncomputable def g_X1_length (r : List ZV) (w : Wd) : Option (Int32 × Wd) := pR r fun tk0 k0 r => zif (Nat.beq tk0 1) (pE r (f_X1_length k0 w))
set_option maxRecDepth 20000 in
theorem e_X1_length (k0 : Nat) (w : Wd) : f_X1_length k0 w = (some ((w.1 1 k0 1), w)) := (zev_eq (lf_X1_length _) _ _ _ _).trans rfl
theorem k_X1_length : zLkV yX1_length cX1_length 1 (some .int) 1 0 := ⟨(tw2 (i := 10) rfl), (tw2 (i := 11) rfl), (tw1 (i := 2) rfl), (tw2 (i := 12) rfl), ⟨_, _, rfl⟩, rfl, by decide, by decide, by decide +kernel⟩
set_option maxHeartbeats 4000000 in
set_option maxRecDepth 20000 in
theorem a_X1_length {l : Launch} {D : va_G} {ad : Nat → Nat → Nat} {cA : Nat → ClassId} (hI : zInj ad) {ρ : Type} (X : ρ) : zAns l D ad cA yX1_length cX1_length 1 (some .int) 0 0 X (fun as => ∃ i as', as = zr 1 i :: as') (cI g_X1_length) := by
  intro as w Kf hv h
  obtain ⟨q, h1, h2⟩ := oC_inv h
  unfold g_X1_length at h1
  obtain ⟨tk0, k0, r, rfl, h1_1⟩ := pR_inv h1
  obtain ⟨bk0, h1_1z⟩ := zif_inv h1_1
  cases Nat.eq_of_beq_eq_true bk0
  obtain ⟨rfl, h3⟩ := pE_inv h1_1z
  exact ⟨_, _, ⟨_, _, rfl⟩, h2, trivial, zmeth (cM := cm_X1_length _) (bl := bl_X1_length) (ret := rI) hI (by decide) fl_X1 ll_X1 (lf_X1_length _) bk_X1_length (Nat.le_of_ble_eq_true rfl) hv (fun hF => zml_nil) (fun hF hr hk => zrt_I hF hr hk) h3⟩
def bl_X1_clear : ZBl := [(0, none, [(.aload_n 0, 1, 0, []), (.iconst 0, 1, 0, []), (.putfield 21, 3, 0, []), (.return_, 1, 0, [])])]
set_option maxRecDepth 20000 in
theorem bk_X1_clear : zdb cX1_clear 1 bl_X1_clear = true := by decide +kernel
noncomputable def cm_X1_clear (ρ : Type) : List (Nat × Nat × ZCall ρ) := []
theorem lf_X1_clear (ρ : Type) : LfM (cm_X1_clear ρ) := lfm_of lfm_n
noncomputable def x_X1_clear : ZJ Wd := zev cF_X1 cL_X1 bl_X1_clear (cm_X1_clear Wd) rV
noncomputable def f_X1_clear (k0 : Nat) (w : Wd) : Option Wd := x_X1_clear 0 [] [some (zr 1 k0)] w
noncomputable def g_X1_clear (r : List ZV) (w : Wd) : Option Wd := pR r fun tk0 k0 r => zif (Nat.beq tk0 1) (pE r (f_X1_clear k0 w))
set_option maxRecDepth 20000 in
theorem e_X1_clear (k0 : Nat) (w : Wd) : f_X1_clear k0 w = (some (wI w 1 k0 1 (Int32.ofInt 0))) := (zev_eq (lf_X1_clear _) _ _ _ _).trans rfl
theorem k_X1_clear : zLkV yX1_clear cX1_clear 1 none 1 0 := ⟨(tw2 (i := 72) rfl), (tw2 (i := 73) rfl), (tw1 (i := 2) rfl), (tw2 (i := 74) rfl), ⟨_, _, rfl⟩, rfl, by decide, by decide, by decide +kernel⟩
set_option maxHeartbeats 4000000 in
set_option maxRecDepth 20000 in
theorem a_X1_clear {l : Launch} {D : va_G} {ad : Nat → Nat → Nat} {cA : Nat → ClassId} (hI : zInj ad) {ρ : Type} (X : ρ) : zAns l D ad cA yX1_clear cX1_clear 1 none 0 0 X (fun as => ∃ i as', as = zr 1 i :: as') (cV g_X1_clear) := by
  intro as w Kf hv h
  obtain ⟨q, h1, h2⟩ := oC_inv h
  unfold g_X1_clear at h1
  obtain ⟨tk0, k0, r, rfl, h1_1⟩ := pR_inv h1
  obtain ⟨bk0, h1_1z⟩ := zif_inv h1_1
  cases Nat.eq_of_beq_eq_true bk0
  obtain ⟨rfl, h3⟩ := pE_inv h1_1z
  exact ⟨_, _, ⟨_, _, rfl⟩, h2, trivial, zmeth (cM := cm_X1_clear _) (bl := bl_X1_clear) (ret := rV) hI (by decide) fl_X1 ll_X1 (lf_X1_clear _) bk_X1_clear (Nat.le_of_ble_eq_true rfl) hv (fun hF => zml_nil) (fun hF hr hk => zrt_V hF hr hk) h3⟩
def bl_X1_append : ZBl := [(0, none, [(.iload_n 3, 1, 0, []), (.iconst 1, 1, 0, []), (.isub, 1, 0, []), (.istore 4, 2, 0, [])]), (5, some [true, true, false, false, true], [(.iload 4, 2, 0, []), (.ifCond .lt 43, 3, 50, [])]), (10, none, [(.aload_n 0, 1, 0, []), (.getfield 21, 3, 0, []), (.bipush 40, 2, 0, []), (.if_icmp .ge 34, 3, 50, [])]), (19, none, [(.aload_n 0, 1, 0, []), (.getfield 9, 3, 0, []), (.aload_n 0, 1, 0, []), (.getfield 21, 3, 0, []), (.lload_n 1, 1, 0, []), (.iload 4, 2, 0, []), (.invokestatic 15, 3, 0, []), (.iastore, 1, 0, []), (.aload_n 0, 1, 0, []), (.dup, 1, 0, []), (.getfield 21, 3, 0, []), (.iconst 1, 1, 0, []), (.iadd, 1, 0, []), (.putfield 21, 3, 0, []), (.iinc 4 (-1), 3, 0, []), (.goto (-42), 3, 5, [])]), (50, none, [(.return_, 1, 0, [])])]
set_option maxRecDepth 20000 in
theorem bk_X1_append : zdb cX1_append 5 bl_X1_append = true := by decide +kernel
noncomputable def cm_X1_append (ρ : Type) : List (Nat × Nat × ZCall ρ) := [(31, 2, cI g_X1_signIn)]
theorem lf_X1_append (ρ : Type) : LfM (cm_X1_append ρ) := lfm_of (lfm_cons (lfc_I g_X1_signIn) lfm_n)
noncomputable def x_X1_append : ZJ Wd := zev cF_X1 cL_X1 bl_X1_append (cm_X1_append Wd) rV
noncomputable def f_X1_append (k0 : Nat) (y1 : Int64) (x3 : Int32) (w : Wd) : Option Wd := x_X1_append 0 [] [some (zr 1 k0), some (zl y1), none, some (zi x3), none] w
noncomputable def g_X1_append (r : List ZV) (w : Wd) : Option Wd := pR r fun tk0 k0 r => zif (Nat.beq tk0 1) (pL r fun y1 r => pI r fun x3 r => pE r (f_X1_append k0 y1 x3 w))
set_option maxRecDepth 20000 in
theorem e_X1_append (k0 : Nat) (y1 : Int64) (x3 : Int32) (w : Wd) : f_X1_append k0 y1 x3 w = (x_X1_append 5 [] [some (zr 1 k0), some (zl y1), none, none, some (zi (x3 - (Int32.ofInt 1)))] w) := (zev_eq (lf_X1_append _) _ _ _ _).trans rfl
set_option maxRecDepth 20000 in
theorem e_X1_append_5 (k0 : Nat) (y1 : Int64) (x4 : Int32) (w : Wd) : x_X1_append 5 [] [some (zr 1 k0), some (zl y1), none, none, some (zi x4)] w = (if x4 < 0 then (some w) else (if (Int32.ofInt 40) ≤ (w.1 1 k0 1) then (some w) else (oC (f_X1_signIn y1 x4 w) fun q1 => (chk (w.1 1 k0 1) 40 (x_X1_append 5 [] [some (zr 1 k0), some (zl y1), none, none, some (zi (x4 + (Int32.ofInt (-1))))] (wI (wI q1.2 10 0 (w.1 1 k0 1).toNatClampNeg q1.1) 1 k0 1 (((wI q1.2 10 0 (w.1 1 k0 1).toNatClampNeg q1.1).1 1 k0 1) + (Int32.ofInt 1)))))))) := (zev_eq (lf_X1_append _) _ _ _ _).trans rfl
theorem k_X1_append : zLkV yX1_append cX1_append 5 none 1 2 := ⟨(tw3 (i := 123) rfl), (tw3 (i := 124) rfl), (tw1 (i := 2) rfl), (tw3 (i := 125) rfl), ⟨_, _, rfl⟩, rfl, by decide, by decide, by decide +kernel⟩
set_option maxHeartbeats 4000000 in
set_option maxRecDepth 20000 in
theorem a_X1_append {l : Launch} {D : va_G} {ad : Nat → Nat → Nat} {cA : Nat → ClassId} (hI : zInj ad) {ρ : Type} (X : ρ) : zAns l D ad cA yX1_append cX1_append 5 none 1 22 X (fun as => ∃ i as', as = zr 1 i :: as') (cV g_X1_append) := by
  intro as w Kf hv h
  obtain ⟨q, h1, h2⟩ := oC_inv h
  unfold g_X1_append at h1
  obtain ⟨tk0, k0, r, rfl, h1_1⟩ := pR_inv h1
  obtain ⟨bk0, h1_1z⟩ := zif_inv h1_1
  cases Nat.eq_of_beq_eq_true bk0
  obtain ⟨y1, r, rfl, h1_2⟩ := pL_inv h1_1z
  obtain ⟨x3, r, rfl, h1_3⟩ := pI_inv h1_2
  obtain ⟨rfl, h3⟩ := pE_inv h1_3
  exact ⟨_, _, ⟨_, _, rfl⟩, h2, trivial, zmeth (cM := cm_X1_append _) (bl := bl_X1_append) (ret := rV) hI (by decide) fl_X1 ll_X1 (lf_X1_append _) bk_X1_append (Nat.le_of_ble_eq_true rfl) hv (fun hF => (zml_cons (zcs hF ⟨Nat.le_refl _, Nat.le_refl _⟩ rfl (tw3 (i := 118) rfl) k_X1_signIn ⟨by decide, by decide⟩ (a_X1_signIn hI _)) zml_nil)) (fun hF hr hk => zrt_V hF hr hk) h3⟩
def bl_X1_signAt : ZBl := [(0, none, [(.iload_n 1, 1, 0, []), (.ifCond .lt 20, 3, 21, [])]), (4, none, [(.iload_n 1, 1, 0, []), (.aload_n 0, 1, 0, []), (.getfield 21, 3, 0, []), (.if_icmp .ge 12, 3, 21, [])]), (12, none, [(.aload_n 0, 1, 0, []), (.getfield 9, 3, 0, []), (.iload_n 1, 1, 0, []), (.iaload, 1, 0, []), (.goto 4, 3, 22, [])]), (21, none, [(.iconst 0, 1, 0, [])]), (22, none, [(.ireturn, 1, 0, [])])]
set_option maxRecDepth 20000 in
theorem bk_X1_signAt : zdb cX1_signAt 2 bl_X1_signAt = true := by decide +kernel
noncomputable def cm_X1_signAt (ρ : Type) : List (Nat × Nat × ZCall ρ) := []
theorem lf_X1_signAt (ρ : Type) : LfM (cm_X1_signAt ρ) := lfm_of lfm_n
noncomputable def x_X1_signAt : ZJ (Int32 × Wd) := zev cF_X1 cL_X1 bl_X1_signAt (cm_X1_signAt (Int32 × Wd)) rI
noncomputable def f_X1_signAt (k0 : Nat) (x1 : Int32) (w : Wd) : Option (Int32 × Wd) := x_X1_signAt 0 [] [some (zr 1 k0), some (zi x1)] w
noncomputable def g_X1_signAt (r : List ZV) (w : Wd) : Option (Int32 × Wd) := pR r fun tk0 k0 r => zif (Nat.beq tk0 1) (pI r fun x1 r => pE r (f_X1_signAt k0 x1 w))
set_option maxRecDepth 20000 in
theorem e_X1_signAt (k0 : Nat) (x1 : Int32) (w : Wd) : f_X1_signAt k0 x1 w = (if x1 < 0 then (some ((Int32.ofInt 0), w)) else (if (w.1 1 k0 1) ≤ x1 then (some ((Int32.ofInt 0), w)) else (chk x1 40 (some ((w.1 10 0 x1.toNatClampNeg), w))))) := (zev_eq (lf_X1_signAt _) _ _ _ _).trans rfl
theorem k_X1_signAt : zLkV yX1_signAt cX1_signAt 2 (some .int) 1 1 := ⟨(tw1 (i := 221) rfl), (twp (n := 2) (List.mem_append_left _ (List.mem_of_getElem? (i := 0) rfl))), (tw1 (i := 2) rfl), (tw1 (i := 222) rfl), ⟨_, _, rfl⟩, rfl, by decide, by decide, by decide +kernel⟩
set_option maxHeartbeats 4000000 in
set_option maxRecDepth 20000 in
theorem a_X1_signAt {l : Launch} {D : va_G} {ad : Nat → Nat → Nat} {cA : Nat → ClassId} (hI : zInj ad) {ρ : Type} (X : ρ) : zAns l D ad cA yX1_signAt cX1_signAt 2 (some .int) 0 0 X (fun as => ∃ i as', as = zr 1 i :: as') (cI g_X1_signAt) := by
  intro as w Kf hv h
  obtain ⟨q, h1, h2⟩ := oC_inv h
  unfold g_X1_signAt at h1
  obtain ⟨tk0, k0, r, rfl, h1_1⟩ := pR_inv h1
  obtain ⟨bk0, h1_1z⟩ := zif_inv h1_1
  cases Nat.eq_of_beq_eq_true bk0
  obtain ⟨x1, r, rfl, h1_2⟩ := pI_inv h1_1z
  obtain ⟨rfl, h3⟩ := pE_inv h1_2
  exact ⟨_, _, ⟨_, _, rfl⟩, h2, trivial, zmeth (cM := cm_X1_signAt _) (bl := bl_X1_signAt) (ret := rI) hI (by decide) fl_X1 ll_X1 (lf_X1_signAt _) bk_X1_signAt (Nat.le_of_ble_eq_true rfl) hv (fun hF => zml_nil) (fun hF hr hk => zrt_I hF hr hk) h3⟩
def bl_X1_kindAt : ZBl := [(0, none, [(.aload_n 0, 1, 0, []), (.iload_n 1, 1, 0, []), (.invokevirtual 33, 3, 0, []), (.lookupswitch 51 #[(108, 47), (114, 43), (117, 49), (119, 45)], 43, 56, [(108, 52), (114, 48), (117, 54), (119, 50)])]), (48, none, [(.iconst 0, 1, 0, []), (.ireturn, 1, 0, [])]), (50, none, [(.iconst 1, 1, 0, []), (.ireturn, 1, 0, [])]), (52, none, [(.iconst 2, 1, 0, []), (.ireturn, 1, 0, [])]), (54, none, [(.iconst 3, 1, 0, []), (.ireturn, 1, 0, [])]), (56, none, [(.iconst (-1), 1, 0, []), (.ireturn, 1, 0, [])])]
set_option maxRecDepth 20000 in
theorem bk_X1_kindAt : zdb cX1_kindAt 2 bl_X1_kindAt = true := by decide +kernel
noncomputable def cm_X1_kindAt (ρ : Type) : List (Nat × Nat × ZCall ρ) := [(66, 2, cI g_X1_signAt)]
theorem lf_X1_kindAt (ρ : Type) : LfM (cm_X1_kindAt ρ) := lfm_of (lfm_cons (lfc_I g_X1_signAt) lfm_n)
noncomputable def x_X1_kindAt : ZJ (Int32 × Wd) := zev cF_X1 cL_X1 bl_X1_kindAt (cm_X1_kindAt (Int32 × Wd)) rI
noncomputable def f_X1_kindAt (k0 : Nat) (x1 : Int32) (w : Wd) : Option (Int32 × Wd) := x_X1_kindAt 0 [] [some (zr 1 k0), some (zi x1)] w
noncomputable def g_X1_kindAt (r : List ZV) (w : Wd) : Option (Int32 × Wd) := pR r fun tk0 k0 r => zif (Nat.beq tk0 1) (pI r fun x1 r => pE r (f_X1_kindAt k0 x1 w))
set_option maxRecDepth 20000 in
theorem e_X1_kindAt (k0 : Nat) (x1 : Int32) (w : Wd) : f_X1_kindAt k0 x1 w = (oC (f_X1_signAt k0 x1 w) fun q1 => (if q1.1 = (Int32.ofInt 108) then (some ((Int32.ofInt 2), q1.2)) else (if q1.1 = (Int32.ofInt 114) then (some ((Int32.ofInt 0), q1.2)) else (if q1.1 = (Int32.ofInt 117) then (some ((Int32.ofInt 3), q1.2)) else (if q1.1 = (Int32.ofInt 119) then (some ((Int32.ofInt 1), q1.2)) else (some ((Int32.ofInt (-1)), q1.2))))))) := (zev_eq (lf_X1_kindAt _) _ _ _ _).trans rfl
theorem k_X1_kindAt : zLkV yX1_kindAt cX1_kindAt 2 (some .int) 1 1 := ⟨(tw1 (i := 216) rfl), (tw1 (i := 217) rfl), (tw1 (i := 2) rfl), (tw1 (i := 218) rfl), ⟨_, _, rfl⟩, rfl, by decide, by decide, by decide +kernel⟩
set_option maxHeartbeats 4000000 in
set_option maxRecDepth 20000 in
theorem a_X1_kindAt {l : Launch} {D : va_G} {ad : Nat → Nat → Nat} {cA : Nat → ClassId} (hI : zInj ad) {ρ : Type} (X : ρ) : zAns l D ad cA yX1_kindAt cX1_kindAt 2 (some .int) 1 21 X (fun as => ∃ i as', as = zr 1 i :: as') (cI g_X1_kindAt) := by
  intro as w Kf hv h
  obtain ⟨q, h1, h2⟩ := oC_inv h
  unfold g_X1_kindAt at h1
  obtain ⟨tk0, k0, r, rfl, h1_1⟩ := pR_inv h1
  obtain ⟨bk0, h1_1z⟩ := zif_inv h1_1
  cases Nat.eq_of_beq_eq_true bk0
  obtain ⟨x1, r, rfl, h1_2⟩ := pI_inv h1_1z
  obtain ⟨rfl, h3⟩ := pE_inv h1_2
  exact ⟨_, _, ⟨_, _, rfl⟩, h2, trivial, zmeth (cM := cm_X1_kindAt _) (bl := bl_X1_kindAt) (ret := rI) hI (by decide) fl_X1 ll_X1 (lf_X1_kindAt _) bk_X1_kindAt (Nat.le_of_ble_eq_true rfl) hv (fun hF => (zml_cons (zcv hF ⟨Nat.le_refl _, Nat.le_refl _⟩ rfl (tw1 (i := 219) rfl) k_X1_signAt ⟨by decide, by decide⟩ (a_X1_signAt hI _)) zml_nil)) (fun hF hr hk => zrt_I hF hr hk) h3⟩
def bl_X1_isDigitAt : ZBl := [(0, none, [(.aload_n 0, 1, 0, []), (.iload_n 1, 1, 0, []), (.invokevirtual 33, 3, 0, []), (.bipush 48, 2, 0, []), (.if_icmp .lt 17, 3, 24, [])]), (10, none, [(.aload_n 0, 1, 0, []), (.iload_n 1, 1, 0, []), (.invokevirtual 33, 3, 0, []), (.bipush 51, 2, 0, []), (.if_icmp .gt 7, 3, 24, [])]), (20, none, [(.iconst 1, 1, 0, []), (.goto 4, 3, 25, [])]), (24, none, [(.iconst 0, 1, 0, [])]), (25, none, [(.ireturn, 1, 0, [])])]
set_option maxRecDepth 20000 in
theorem bk_X1_isDigitAt : zdb cX1_isDigitAt 2 bl_X1_isDigitAt = true := by decide +kernel
noncomputable def cm_X1_isDigitAt (ρ : Type) : List (Nat × Nat × ZCall ρ) := [(66, 2, cI g_X1_signAt)]
theorem lf_X1_isDigitAt (ρ : Type) : LfM (cm_X1_isDigitAt ρ) := lfm_of (lfm_cons (lfc_I g_X1_signAt) lfm_n)
noncomputable def x_X1_isDigitAt : ZJ (Int32 × Wd) := zev cF_X1 cL_X1 bl_X1_isDigitAt (cm_X1_isDigitAt (Int32 × Wd)) rZ
noncomputable def f_X1_isDigitAt (k0 : Nat) (x1 : Int32) (w : Wd) : Option (Int32 × Wd) := x_X1_isDigitAt 0 [] [some (zr 1 k0), some (zi x1)] w
noncomputable def g_X1_isDigitAt (r : List ZV) (w : Wd) : Option (Int32 × Wd) := pR r fun tk0 k0 r => zif (Nat.beq tk0 1) (pI r fun x1 r => pE r (f_X1_isDigitAt k0 x1 w))
set_option maxRecDepth 20000 in
theorem e_X1_isDigitAt (k0 : Nat) (x1 : Int32) (w : Wd) : f_X1_isDigitAt k0 x1 w = (oC (f_X1_signAt k0 x1 w) fun q1 => (if q1.1 < (Int32.ofInt 48) then (zb (Int32.ofInt 0) (some ((Int32.ofInt 0), q1.2))) else (oC (f_X1_signAt k0 x1 q1.2) fun q2 => (if (Int32.ofInt 51) < q2.1 then (zb (Int32.ofInt 0) (some ((Int32.ofInt 0), q2.2))) else (zb (Int32.ofInt 1) (some ((Int32.ofInt 1), q2.2))))))) := (zev_eq (lf_X1_isDigitAt _) _ _ _ _).trans rfl
theorem k_X1_isDigitAt : zLkV yX1_isDigitAt cX1_isDigitAt 2 (some .boolean) 1 1 := ⟨(tw1 (i := 225) rfl), (twp (n := 2) (List.mem_append_left _ (List.mem_of_getElem? (i := 1) rfl))), (tw1 (i := 2) rfl), (tw1 (i := 226) rfl), ⟨_, _, rfl⟩, rfl, by decide, by decide, by decide +kernel⟩
set_option maxHeartbeats 4000000 in
set_option maxRecDepth 20000 in
theorem a_X1_isDigitAt {l : Launch} {D : va_G} {ad : Nat → Nat → Nat} {cA : Nat → ClassId} (hI : zInj ad) {ρ : Type} (X : ρ) : zAns l D ad cA yX1_isDigitAt cX1_isDigitAt 2 (some .boolean) 1 21 X (fun as => ∃ i as', as = zr 1 i :: as') (cI g_X1_isDigitAt) := by
  intro as w Kf hv h
  obtain ⟨q, h1, h2⟩ := oC_inv h
  unfold g_X1_isDigitAt at h1
  obtain ⟨tk0, k0, r, rfl, h1_1⟩ := pR_inv h1
  obtain ⟨bk0, h1_1z⟩ := zif_inv h1_1
  cases Nat.eq_of_beq_eq_true bk0
  obtain ⟨x1, r, rfl, h1_2⟩ := pI_inv h1_1z
  obtain ⟨rfl, h3⟩ := pE_inv h1_2
  exact ⟨_, _, ⟨_, _, rfl⟩, h2, trivial, zmeth (cM := cm_X1_isDigitAt _) (bl := bl_X1_isDigitAt) (ret := rZ) hI (by decide) fl_X1 ll_X1 (lf_X1_isDigitAt _) bk_X1_isDigitAt (Nat.le_of_ble_eq_true rfl) hv (fun hF => (zml_cons (zcv hF ⟨Nat.le_refl _, Nat.le_refl _⟩ rfl (tw1 (i := 219) rfl) k_X1_signAt ⟨by decide, by decide⟩ (a_X1_signAt hI _)) zml_nil)) (fun hF hr hk => zrt_Z hF hr hk) h3⟩
def bl_X1_faultAsProgram : ZBl := [(0, none, [(.iconst 0, 1, 0, []), (.istore_n 1, 1, 0, [])]), (2, some [true, true, false], [(.iload_n 1, 1, 0, []), (.aload_n 0, 1, 0, []), (.getfield 21, 3, 0, []), (.if_icmp .ge 50, 3, 57, [])]), (10, none, [(.iload_n 1, 1, 0, []), (.iconst 2, 1, 0, []), (.irem, 1, 0, []), (.ifCond .ne 20, 3, 33, [])]), (16, none, [(.aload_n 0, 1, 0, []), (.iload_n 1, 1, 0, []), (.invokevirtual 25, 3, 0, []), (.iconst (-1), 1, 0, []), (.if_icmp .eq 7, 3, 29, [])]), (25, none, [(.iconst 1, 1, 0, []), (.goto 12, 3, 38, [])]), (29, none, [(.iconst 0, 1, 0, []), (.goto 8, 3, 38, [])]), (33, none, [(.aload_n 0, 1, 0, []), (.iload_n 1, 1, 0, []), (.invokevirtual 29, 3, 0, [])]), (38, none, [(.istore_n 2, 1, 0, []), (.iload_n 2, 1, 0, []), (.ifCond .eq 9, 3, 49, [])]), (43, none, [(.iload_n 1, 1, 0, []), (.bipush 12, 2, 0, []), (.if_icmp .lt 5, 3, 51, [])]), (49, none, [(.iload_n 1, 1, 0, []), (.ireturn, 1, 0, [])]), (51, none, [(.iinc 1 1, 3, 0, []), (.goto (-52), 3, 2, [])]), (57, none, [(.aload_n 0, 1, 0, []), (.getfield 21, 3, 0, []), (.iconst 2, 1, 0, []), (.irem, 1, 0, []), (.ifCond .ne 8, 3, 71, [])]), (66, none, [(.bipush (-6), 2, 0, []), (.goto 7, 3, 75, [])]), (71, none, [(.aload_n 0, 1, 0, []), (.getfield 21, 3, 0, [])]), (75, none, [(.ireturn, 1, 0, [])])]
set_option maxRecDepth 20000 in
theorem bk_X1_faultAsProgram : zdb cX1_faultAsProgram 3 bl_X1_faultAsProgram = true := by decide +kernel
noncomputable def cm_X1_faultAsProgram (ρ : Type) : List (Nat × Nat × ZCall ρ) := [(50, 2, cI g_X1_kindAt), (58, 2, cI g_X1_isDigitAt)]
theorem lf_X1_faultAsProgram (ρ : Type) : LfM (cm_X1_faultAsProgram ρ) := lfm_of (lfm_cons (lfc_I g_X1_kindAt) (lfm_cons (lfc_I g_X1_isDigitAt) lfm_n))
noncomputable def x_X1_faultAsProgram : ZJ (Int32 × Wd) := zev cF_X1 cL_X1 bl_X1_faultAsProgram (cm_X1_faultAsProgram (Int32 × Wd)) rI
noncomputable def f_X1_faultAsProgram (k0 : Nat) (w : Wd) : Option (Int32 × Wd) := x_X1_faultAsProgram 0 [] [some (zr 1 k0), none, none] w
noncomputable def g_X1_faultAsProgram (r : List ZV) (w : Wd) : Option (Int32 × Wd) := pR r fun tk0 k0 r => zif (Nat.beq tk0 1) (pE r (f_X1_faultAsProgram k0 w))
set_option maxRecDepth 20000 in
theorem e_X1_faultAsProgram (k0 : Nat) (w : Wd) : f_X1_faultAsProgram k0 w = (x_X1_faultAsProgram 2 [] [some (zr 1 k0), some (zi (Int32.ofInt 0)), none] w) := (zev_eq (lf_X1_faultAsProgram _) _ _ _ _).trans rfl
set_option maxRecDepth 20000 in
theorem e_X1_faultAsProgram_2 (k0 : Nat) (x1 : Int32) (w : Wd) : x_X1_faultAsProgram 2 [] [some (zr 1 k0), some (zi x1), none] w = (if (w.1 1 k0 1) ≤ x1 then (if (Int32.ofInt 2) = 0 then none else (if ((w.1 1 k0 1) - (w.1 1 k0 1) / (Int32.ofInt 2) * (Int32.ofInt 2)) = 0 then (some ((Int32.ofInt (-6)), w)) else (some ((w.1 1 k0 1), w)))) else (if (Int32.ofInt 2) = 0 then none else (if (x1 - x1 / (Int32.ofInt 2) * (Int32.ofInt 2)) = 0 then (oC (f_X1_kindAt k0 x1 w) fun q2 => (if q2.1 = (Int32.ofInt (-1)) then (if (Int32.ofInt 0) = 0 then (some (x1, q2.2)) else (if x1 < (Int32.ofInt 12) then (x_X1_faultAsProgram 2 [] [some (zr 1 k0), some (zi (x1 + (Int32.ofInt 1))), none] q2.2) else (some (x1, q2.2)))) else (if (Int32.ofInt 1) = 0 then (some (x1, q2.2)) else (if x1 < (Int32.ofInt 12) then (x_X1_faultAsProgram 2 [] [some (zr 1 k0), some (zi (x1 + (Int32.ofInt 1))), none] q2.2) else (some (x1, q2.2)))))) else (oC (f_X1_isDigitAt k0 x1 w) fun q1 => (if q1.1 = 0 then (some (x1, q1.2)) else (if x1 < (Int32.ofInt 12) then (x_X1_faultAsProgram 2 [] [some (zr 1 k0), some (zi (x1 + (Int32.ofInt 1))), none] q1.2) else (some (x1, q1.2)))))))) := (zev_eq (lf_X1_faultAsProgram _) _ _ _ _).trans rfl
theorem k_X1_faultAsProgram : zLkV yX1_faultAsProgram cX1_faultAsProgram 3 (some .int) 1 0 := ⟨(tw1 (i := 212) rfl), (tw1 (i := 213) rfl), (tw1 (i := 2) rfl), (tw1 (i := 214) rfl), ⟨_, _, rfl⟩, rfl, by decide, by decide, by decide +kernel⟩
set_option maxHeartbeats 4000000 in
set_option maxRecDepth 20000 in
theorem a_X1_faultAsProgram {l : Launch} {D : va_G} {ad : Nat → Nat → Nat} {cA : Nat → ClassId} (hI : zInj ad) {ρ : Type} (X : ρ) : zAns l D ad cA yX1_faultAsProgram cX1_faultAsProgram 3 (some .int) 2 42 X (fun as => ∃ i as', as = zr 1 i :: as') (cI g_X1_faultAsProgram) := by
  intro as w Kf hv h
  obtain ⟨q, h1, h2⟩ := oC_inv h
  unfold g_X1_faultAsProgram at h1
  obtain ⟨tk0, k0, r, rfl, h1_1⟩ := pR_inv h1
  obtain ⟨bk0, h1_1z⟩ := zif_inv h1_1
  cases Nat.eq_of_beq_eq_true bk0
  obtain ⟨rfl, h3⟩ := pE_inv h1_1z
  exact ⟨_, _, ⟨_, _, rfl⟩, h2, trivial, zmeth (cM := cm_X1_faultAsProgram _) (bl := bl_X1_faultAsProgram) (ret := rI) hI (by decide) fl_X1 ll_X1 (lf_X1_faultAsProgram _) bk_X1_faultAsProgram (Nat.le_of_ble_eq_true rfl) hv (fun hF => (zml_cons (zcv hF ⟨Nat.le_refl _, Nat.le_refl _⟩ rfl (tw1 (i := 215) rfl) k_X1_kindAt ⟨by decide, by decide⟩ (a_X1_kindAt hI _)) (zml_cons (zcv hF ⟨Nat.le_refl _, Nat.le_refl _⟩ rfl (tw1 (i := 223) rfl) k_X1_isDigitAt ⟨by decide, by decide⟩ (a_X1_isDigitAt hI _)) zml_nil))) (fun hF hr hk => zrt_I hF hr hk) h3⟩
def bl_X1_faultAsRun : ZBl := [(0, none, [(.iconst 0, 1, 0, []), (.istore_n 1, 1, 0, [])]), (2, some [true, true], [(.iload_n 1, 1, 0, []), (.aload_n 0, 1, 0, []), (.getfield 21, 3, 0, []), (.if_icmp .ge 25, 3, 32, [])]), (10, none, [(.aload_n 0, 1, 0, []), (.iload_n 1, 1, 0, []), (.invokevirtual 29, 3, 0, []), (.ifCond .eq 9, 3, 24, [])]), (18, none, [(.iload_n 1, 1, 0, []), (.bipush 24, 2, 0, []), (.if_icmp .lt 5, 3, 26, [])]), (24, none, [(.iload_n 1, 1, 0, []), (.ireturn, 1, 0, [])]), (26, none, [(.iinc 1 1, 3, 0, []), (.goto (-27), 3, 2, [])]), (32, none, [(.bipush (-6), 2, 0, []), (.ireturn, 1, 0, [])])]
set_option maxRecDepth 20000 in
theorem bk_X1_faultAsRun : zdb cX1_faultAsRun 2 bl_X1_faultAsRun = true := by decide +kernel
noncomputable def cm_X1_faultAsRun (ρ : Type) : List (Nat × Nat × ZCall ρ) := [(58, 2, cI g_X1_isDigitAt)]
theorem lf_X1_faultAsRun (ρ : Type) : LfM (cm_X1_faultAsRun ρ) := lfm_of (lfm_cons (lfc_I g_X1_isDigitAt) lfm_n)
noncomputable def x_X1_faultAsRun : ZJ (Int32 × Wd) := zev cF_X1 cL_X1 bl_X1_faultAsRun (cm_X1_faultAsRun (Int32 × Wd)) rI
noncomputable def f_X1_faultAsRun (k0 : Nat) (w : Wd) : Option (Int32 × Wd) := x_X1_faultAsRun 0 [] [some (zr 1 k0), none] w
noncomputable def g_X1_faultAsRun (r : List ZV) (w : Wd) : Option (Int32 × Wd) := pR r fun tk0 k0 r => zif (Nat.beq tk0 1) (pE r (f_X1_faultAsRun k0 w))
set_option maxRecDepth 20000 in
theorem e_X1_faultAsRun (k0 : Nat) (w : Wd) : f_X1_faultAsRun k0 w = (x_X1_faultAsRun 2 [] [some (zr 1 k0), some (zi (Int32.ofInt 0))] w) := (zev_eq (lf_X1_faultAsRun _) _ _ _ _).trans rfl
set_option maxRecDepth 20000 in
theorem e_X1_faultAsRun_2 (k0 : Nat) (x1 : Int32) (w : Wd) : x_X1_faultAsRun 2 [] [some (zr 1 k0), some (zi x1)] w = (if (w.1 1 k0 1) ≤ x1 then (some ((Int32.ofInt (-6)), w)) else (oC (f_X1_isDigitAt k0 x1 w) fun q1 => (if q1.1 = 0 then (some (x1, q1.2)) else (if x1 < (Int32.ofInt 24) then (x_X1_faultAsRun 2 [] [some (zr 1 k0), some (zi (x1 + (Int32.ofInt 1)))] q1.2) else (some (x1, q1.2)))))) := (zev_eq (lf_X1_faultAsRun _) _ _ _ _).trans rfl
theorem k_X1_faultAsRun : zLkV yX1_faultAsRun cX1_faultAsRun 2 (some .int) 1 0 := ⟨(tw1 (i := 228) rfl), (tw1 (i := 229) rfl), (tw1 (i := 2) rfl), (tw1 (i := 230) rfl), ⟨_, _, rfl⟩, rfl, by decide, by decide, by decide +kernel⟩
set_option maxHeartbeats 4000000 in
set_option maxRecDepth 20000 in
theorem a_X1_faultAsRun {l : Launch} {D : va_G} {ad : Nat → Nat → Nat} {cA : Nat → ClassId} (hI : zInj ad) {ρ : Type} (X : ρ) : zAns l D ad cA yX1_faultAsRun cX1_faultAsRun 2 (some .int) 2 42 X (fun as => ∃ i as', as = zr 1 i :: as') (cI g_X1_faultAsRun) := by
  intro as w Kf hv h
  obtain ⟨q, h1, h2⟩ := oC_inv h
  unfold g_X1_faultAsRun at h1
  obtain ⟨tk0, k0, r, rfl, h1_1⟩ := pR_inv h1
  obtain ⟨bk0, h1_1z⟩ := zif_inv h1_1
  cases Nat.eq_of_beq_eq_true bk0
  obtain ⟨rfl, h3⟩ := pE_inv h1_1z
  exact ⟨_, _, ⟨_, _, rfl⟩, h2, trivial, zmeth (cM := cm_X1_faultAsRun _) (bl := bl_X1_faultAsRun) (ret := rI) hI (by decide) fl_X1 ll_X1 (lf_X1_faultAsRun _) bk_X1_faultAsRun (Nat.le_of_ble_eq_true rfl) hv (fun hF => (zml_cons (zcv hF ⟨Nat.le_refl _, Nat.le_refl _⟩ rfl (tw1 (i := 223) rfl) k_X1_isDigitAt ⟨by decide, by decide⟩ (a_X1_isDigitAt hI _)) zml_nil)) (fun hF hr hk => zrt_I hF hr hk) h3⟩
def bl_X1_digitAt : ZBl := [(0, none, [(.aload_n 0, 1, 0, []), (.iload_n 1, 1, 0, []), (.invokevirtual 33, 3, 0, []), (.bipush 48, 2, 0, []), (.isub, 1, 0, []), (.ireturn, 1, 0, [])])]
set_option maxRecDepth 20000 in
theorem bk_X1_digitAt : zdb cX1_digitAt 2 bl_X1_digitAt = true := by decide +kernel
noncomputable def cm_X1_digitAt (ρ : Type) : List (Nat × Nat × ZCall ρ) := [(66, 2, cI g_X1_signAt)]
theorem lf_X1_digitAt (ρ : Type) : LfM (cm_X1_digitAt ρ) := lfm_of (lfm_cons (lfc_I g_X1_signAt) lfm_n)
noncomputable def x_X1_digitAt : ZJ (Int32 × Wd) := zev cF_X1 cL_X1 bl_X1_digitAt (cm_X1_digitAt (Int32 × Wd)) rI
noncomputable def f_X1_digitAt (k0 : Nat) (x1 : Int32) (w : Wd) : Option (Int32 × Wd) := x_X1_digitAt 0 [] [some (zr 1 k0), some (zi x1)] w
noncomputable def g_X1_digitAt (r : List ZV) (w : Wd) : Option (Int32 × Wd) := pR r fun tk0 k0 r => zif (Nat.beq tk0 1) (pI r fun x1 r => pE r (f_X1_digitAt k0 x1 w))
set_option maxRecDepth 20000 in
theorem e_X1_digitAt (k0 : Nat) (x1 : Int32) (w : Wd) : f_X1_digitAt k0 x1 w = (oC (f_X1_signAt k0 x1 w) fun q1 => (some ((q1.1 - (Int32.ofInt 48)), q1.2))) := (zev_eq (lf_X1_digitAt _) _ _ _ _).trans rfl
theorem k_X1_digitAt : zLkV yX1_digitAt cX1_digitAt 2 (some .int) 1 1 := ⟨(tw2 (i := 15) rfl), (tw2 (i := 16) rfl), (tw1 (i := 2) rfl), (tw2 (i := 17) rfl), ⟨_, _, rfl⟩, rfl, by decide, by decide, by decide +kernel⟩
set_option maxHeartbeats 4000000 in
set_option maxRecDepth 20000 in
theorem a_X1_digitAt {l : Launch} {D : va_G} {ad : Nat → Nat → Nat} {cA : Nat → ClassId} (hI : zInj ad) {ρ : Type} (X : ρ) : zAns l D ad cA yX1_digitAt cX1_digitAt 2 (some .int) 1 21 X (fun as => ∃ i as', as = zr 1 i :: as') (cI g_X1_digitAt) := by
  intro as w Kf hv h
  obtain ⟨q, h1, h2⟩ := oC_inv h
  unfold g_X1_digitAt at h1
  obtain ⟨tk0, k0, r, rfl, h1_1⟩ := pR_inv h1
  obtain ⟨bk0, h1_1z⟩ := zif_inv h1_1
  cases Nat.eq_of_beq_eq_true bk0
  obtain ⟨x1, r, rfl, h1_2⟩ := pI_inv h1_1z
  obtain ⟨rfl, h3⟩ := pE_inv h1_2
  exact ⟨_, _, ⟨_, _, rfl⟩, h2, trivial, zmeth (cM := cm_X1_digitAt _) (bl := bl_X1_digitAt) (ret := rI) hI (by decide) fl_X1 ll_X1 (lf_X1_digitAt _) bk_X1_digitAt (Nat.le_of_ble_eq_true rfl) hv (fun hF => (zml_cons (zcv hF ⟨Nat.le_refl _, Nat.le_refl _⟩ rfl (tw1 (i := 219) rfl) k_X1_signAt ⟨by decide, by decide⟩ (a_X1_signAt hI _)) zml_nil)) (fun hF hr hk => zrt_I hF hr hk) h3⟩
def bl_X7_isThread : ZBl := [(0, none, [(.iload_n 0, 1, 0, []), (.ifCond .lt 12, 3, 13, [])]), (4, none, [(.iload_n 0, 1, 0, []), (.iconst 4, 1, 0, []), (.if_icmp .ge 7, 3, 13, [])]), (9, none, [(.iconst 1, 1, 0, []), (.goto 4, 3, 14, [])]), (13, none, [(.iconst 0, 1, 0, [])]), (14, none, [(.ireturn, 1, 0, [])])]
set_option maxRecDepth 20000 in
theorem bk_X7_isThread : zdb cX7_isThread 1 bl_X7_isThread = true := by decide +kernel
noncomputable def cm_X7_isThread (ρ : Type) : List (Nat × Nat × ZCall ρ) := []
theorem lf_X7_isThread (ρ : Type) : LfM (cm_X7_isThread ρ) := lfm_of lfm_n
noncomputable def x_X7_isThread : ZJ (Int32 × Wd) := zev cF_X7 cL_X7 bl_X7_isThread (cm_X7_isThread (Int32 × Wd)) rZ
noncomputable def f_X7_isThread (x0 : Int32) (w : Wd) : Option (Int32 × Wd) := x_X7_isThread 0 [] [some (zi x0)] w
noncomputable def g_X7_isThread (r : List ZV) (w : Wd) : Option (Int32 × Wd) := pI r fun x0 r => pE r (f_X7_isThread x0 w)
set_option maxRecDepth 20000 in
theorem e_X7_isThread (x0 : Int32) (w : Wd) : f_X7_isThread x0 w = (if x0 < 0 then (zb (Int32.ofInt 0) (some ((Int32.ofInt 0), w))) else (if (Int32.ofInt 4) ≤ x0 then (zb (Int32.ofInt 0) (some ((Int32.ofInt 0), w))) else (zb (Int32.ofInt 1) (some ((Int32.ofInt 1), w))))) := (zev_eq (lf_X7_isThread _) _ _ _ _).trans rfl
theorem k_X7_isThread : zLkS yX7_isThread cX7_isThread 1 (some .boolean) 1 := ⟨(tw1 (i := 236) rfl), (tw1 (i := 1) rfl), (tw1 (i := 237) rfl), by decide, by decide, by decide +kernel⟩
set_option maxHeartbeats 4000000 in
set_option maxRecDepth 20000 in
theorem a_X7_isThread {l : Launch} {D : va_G} {ad : Nat → Nat → Nat} {cA : Nat → ClassId} (hI : zInj ad) {ρ : Type} (X : ρ) : zAns l D ad cA yX7_isThread cX7_isThread 1 (some .boolean) 0 0 X (fun _ => True) (cI g_X7_isThread) := by
  intro as w Kf hv h
  obtain ⟨q, h1, h2⟩ := oC_inv h
  unfold g_X7_isThread at h1
  obtain ⟨x0, r, rfl, h1_1⟩ := pI_inv h1
  obtain ⟨rfl, h3⟩ := pE_inv h1_1
  exact ⟨_, _, trivial, h2, trivial, zmeth (cM := cm_X7_isThread _) (bl := bl_X7_isThread) (ret := rZ) hI (by decide) fl_X7 ll_X7 (lf_X7_isThread _) bk_X7_isThread (Nat.le_of_ble_eq_true rfl) hv (fun hF => zml_nil) (fun hF hr hk => zrt_Z hF hr hk) h3⟩
def bl_X2_lengthOf : ZBl := [(0, none, [(.iload_n 1, 1, 0, []), (.invokestatic 18, 3, 0, []), (.ifCond .eq 12, 3, 16, [])]), (7, none, [(.aload_n 0, 1, 0, []), (.getfield 15, 3, 0, []), (.iload_n 1, 1, 0, []), (.iaload, 1, 0, []), (.goto 4, 3, 17, [])]), (16, none, [(.iconst 0, 1, 0, [])]), (17, none, [(.ireturn, 1, 0, [])])]
set_option maxRecDepth 20000 in
theorem bk_X2_lengthOf : zdb cX2_lengthOf 2 bl_X2_lengthOf = true := by decide +kernel
noncomputable def cm_X2_lengthOf (ρ : Type) : List (Nat × Nat × ZCall ρ) := [(37, 1, cI g_X7_isThread)]
theorem lf_X2_lengthOf (ρ : Type) : LfM (cm_X2_lengthOf ρ) := lfm_of (lfm_cons (lfc_I g_X7_isThread) lfm_n)
noncomputable def x_X2_lengthOf : ZJ (Int32 × Wd) := zev cF_X2 cL_X2 bl_X2_lengthOf (cm_X2_lengthOf (Int32 × Wd)) rI
noncomputable def f_X2_lengthOf (k0 : Nat) (x1 : Int32) (w : Wd) : Option (Int32 × Wd) := x_X2_lengthOf 0 [] [some (zr 2 k0), some (zi x1)] w
noncomputable def g_X2_lengthOf (r : List ZV) (w : Wd) : Option (Int32 × Wd) := pR r fun tk0 k0 r => zif (Nat.beq tk0 2) (pI r fun x1 r => pE r (f_X2_lengthOf k0 x1 w))
set_option maxRecDepth 20000 in
theorem e_X2_lengthOf (k0 : Nat) (x1 : Int32) (w : Wd) : f_X2_lengthOf k0 x1 w = (oC (f_X7_isThread x1 w) fun q1 => (if q1.1 = 0 then (some ((Int32.ofInt 0), q1.2)) else (chk x1 4 (some ((q1.2.1 12 k0 x1.toNatClampNeg), q1.2))))) := (zev_eq (lf_X2_lengthOf _) _ _ _ _).trans rfl
theorem k_X2_lengthOf : zLkV yX2_lengthOf cX2_lengthOf 2 (some .int) 2 1 := ⟨(tw2 (i := 76) rfl), (tw2 (i := 77) rfl), (tw1 (i := 4) rfl), (tw2 (i := 78) rfl), ⟨_, _, rfl⟩, rfl, by decide, by decide, by decide +kernel⟩
set_option maxHeartbeats 4000000 in
set_option maxRecDepth 20000 in
theorem a_X2_lengthOf {l : Launch} {D : va_G} {ad : Nat → Nat → Nat} {cA : Nat → ClassId} (hI : zInj ad) {ρ : Type} (X : ρ) : zAns l D ad cA yX2_lengthOf cX2_lengthOf 2 (some .int) 1 20 X (fun as => ∃ i as', as = zr 2 i :: as') (cI g_X2_lengthOf) := by
  intro as w Kf hv h
  obtain ⟨q, h1, h2⟩ := oC_inv h
  unfold g_X2_lengthOf at h1
  obtain ⟨tk0, k0, r, rfl, h1_1⟩ := pR_inv h1
  obtain ⟨bk0, h1_1z⟩ := zif_inv h1_1
  cases Nat.eq_of_beq_eq_true bk0
  obtain ⟨x1, r, rfl, h1_2⟩ := pI_inv h1_1z
  obtain ⟨rfl, h3⟩ := pE_inv h1_2
  exact ⟨_, _, ⟨_, _, rfl⟩, h2, trivial, zmeth (cM := cm_X2_lengthOf _) (bl := bl_X2_lengthOf) (ret := rI) hI (by decide) fl_X2 ll_X2 (lf_X2_lengthOf _) bk_X2_lengthOf (Nat.le_of_ble_eq_true rfl) hv (fun hF => (zml_cons (zcn hF ⟨Nat.le_refl _, Nat.le_refl _⟩ rfl (tw2 (i := 79) rfl) k_X7_isThread ⟨by decide, by decide⟩ (a_X7_isThread hI _)) zml_nil)) (fun hF hr hk => zrt_I hF hr hk) h3⟩
def bl_X2_stepOf : ZBl := [(0, none, [(.iload_n 1, 1, 0, []), (.ifCond .lt 22, 3, 23, [])]), (4, none, [(.iload_n 1, 1, 0, []), (.iconst 4, 1, 0, []), (.if_icmp .ge 17, 3, 23, [])]), (9, none, [(.iload_n 2, 1, 0, []), (.ifCond .lt 13, 3, 23, [])]), (13, none, [(.iload_n 2, 1, 0, []), (.aload_n 0, 1, 0, []), (.getfield 15, 3, 0, []), (.iload_n 1, 1, 0, []), (.iaload, 1, 0, []), (.if_icmp .lt 5, 3, 25, [])]), (23, none, [(.iconst (-1), 1, 0, []), (.ireturn, 1, 0, [])]), (25, none, [(.aload_n 0, 1, 0, []), (.getfield 9, 3, 0, []), (.iload_n 1, 1, 0, []), (.bipush 6, 2, 0, []), (.imul, 1, 0, []), (.iload_n 2, 1, 0, []), (.iadd, 1, 0, []), (.iaload, 1, 0, []), (.ireturn, 1, 0, [])])]
set_option maxRecDepth 20000 in
theorem bk_X2_stepOf : zdb cX2_stepOf 3 bl_X2_stepOf = true := by decide +kernel
noncomputable def cm_X2_stepOf (ρ : Type) : List (Nat × Nat × ZCall ρ) := []
theorem lf_X2_stepOf (ρ : Type) : LfM (cm_X2_stepOf ρ) := lfm_of lfm_n
noncomputable def x_X2_stepOf : ZJ (Int32 × Wd) := zev cF_X2 cL_X2 bl_X2_stepOf (cm_X2_stepOf (Int32 × Wd)) rI
noncomputable def f_X2_stepOf (k0 : Nat) (x1 : Int32) (x2 : Int32) (w : Wd) : Option (Int32 × Wd) := x_X2_stepOf 0 [] [some (zr 2 k0), some (zi x1), some (zi x2)] w
noncomputable def g_X2_stepOf (r : List ZV) (w : Wd) : Option (Int32 × Wd) := pR r fun tk0 k0 r => zif (Nat.beq tk0 2) (pI r fun x1 r => pI r fun x2 r => pE r (f_X2_stepOf k0 x1 x2 w))
set_option maxRecDepth 20000 in
theorem e_X2_stepOf (k0 : Nat) (x1 : Int32) (x2 : Int32) (w : Wd) : f_X2_stepOf k0 x1 x2 w = (if x1 < 0 then (some ((Int32.ofInt (-1)), w)) else (if (Int32.ofInt 4) ≤ x1 then (some ((Int32.ofInt (-1)), w)) else (if x2 < 0 then (some ((Int32.ofInt (-1)), w)) else (chk x1 4 (if x2 < (w.1 12 k0 x1.toNatClampNeg) then (chk ((x1 * (Int32.ofInt 6)) + x2) 24 (some ((w.1 11 k0 ((x1 * (Int32.ofInt 6)) + x2).toNatClampNeg), w))) else (some ((Int32.ofInt (-1)), w))))))) := (zev_eq (lf_X2_stepOf _) _ _ _ _).trans rfl
theorem k_X2_stepOf : zLkV yX2_stepOf cX2_stepOf 3 (some .int) 2 2 := ⟨(tw2 (i := 30) rfl), (tw2 (i := 31) rfl), (tw1 (i := 4) rfl), (tw2 (i := 32) rfl), ⟨_, _, rfl⟩, rfl, by decide, by decide, by decide +kernel⟩
set_option maxHeartbeats 4000000 in
set_option maxRecDepth 20000 in
theorem a_X2_stepOf {l : Launch} {D : va_G} {ad : Nat → Nat → Nat} {cA : Nat → ClassId} (hI : zInj ad) {ρ : Type} (X : ρ) : zAns l D ad cA yX2_stepOf cX2_stepOf 3 (some .int) 0 0 X (fun as => ∃ i as', as = zr 2 i :: as') (cI g_X2_stepOf) := by
  intro as w Kf hv h
  obtain ⟨q, h1, h2⟩ := oC_inv h
  unfold g_X2_stepOf at h1
  obtain ⟨tk0, k0, r, rfl, h1_1⟩ := pR_inv h1
  obtain ⟨bk0, h1_1z⟩ := zif_inv h1_1
  cases Nat.eq_of_beq_eq_true bk0
  obtain ⟨x1, r, rfl, h1_2⟩ := pI_inv h1_1z
  obtain ⟨x2, r, rfl, h1_3⟩ := pI_inv h1_2
  obtain ⟨rfl, h3⟩ := pE_inv h1_3
  exact ⟨_, _, ⟨_, _, rfl⟩, h2, trivial, zmeth (cM := cm_X2_stepOf _) (bl := bl_X2_stepOf) (ret := rI) hI (by decide) fl_X2 ll_X2 (lf_X2_stepOf _) bk_X2_stepOf (Nat.le_of_ble_eq_true rfl) hv (fun hF => zml_nil) (fun hF hr hk => zrt_I hF hr hk) h3⟩
def bl_X2_allSteps : ZBl := [(0, none, [(.iconst 0, 1, 0, []), (.istore_n 1, 1, 0, []), (.iconst 0, 1, 0, []), (.istore_n 2, 1, 0, [])]), (4, some [true, true, true], [(.iload_n 2, 1, 0, []), (.iconst 4, 1, 0, []), (.if_icmp .ge 18, 3, 24, [])]), (9, none, [(.iload_n 1, 1, 0, []), (.aload_n 0, 1, 0, []), (.getfield 15, 3, 0, []), (.iload_n 2, 1, 0, []), (.iaload, 1, 0, []), (.iadd, 1, 0, []), (.istore_n 1, 1, 0, []), (.iinc 2 1, 3, 0, []), (.goto (-17), 3, 4, [])]), (24, none, [(.iload_n 1, 1, 0, []), (.ireturn, 1, 0, [])])]
set_option maxRecDepth 20000 in
theorem bk_X2_allSteps : zdb cX2_allSteps 3 bl_X2_allSteps = true := by decide +kernel
noncomputable def cm_X2_allSteps (ρ : Type) : List (Nat × Nat × ZCall ρ) := []
theorem lf_X2_allSteps (ρ : Type) : LfM (cm_X2_allSteps ρ) := lfm_of lfm_n
noncomputable def x_X2_allSteps : ZJ (Int32 × Wd) := zev cF_X2 cL_X2 bl_X2_allSteps (cm_X2_allSteps (Int32 × Wd)) rI
noncomputable def f_X2_allSteps (k0 : Nat) (w : Wd) : Option (Int32 × Wd) := x_X2_allSteps 0 [] [some (zr 2 k0), none, none] w
noncomputable def g_X2_allSteps (r : List ZV) (w : Wd) : Option (Int32 × Wd) := pR r fun tk0 k0 r => zif (Nat.beq tk0 2) (pE r (f_X2_allSteps k0 w))
set_option maxRecDepth 20000 in
theorem e_X2_allSteps (k0 : Nat) (w : Wd) : f_X2_allSteps k0 w = (x_X2_allSteps 4 [] [some (zr 2 k0), some (zi (Int32.ofInt 0)), some (zi (Int32.ofInt 0))] w) := (zev_eq (lf_X2_allSteps _) _ _ _ _).trans rfl
set_option maxRecDepth 20000 in
theorem e_X2_allSteps_4 (k0 : Nat) (x1 : Int32) (x2 : Int32) (w : Wd) : x_X2_allSteps 4 [] [some (zr 2 k0), some (zi x1), some (zi x2)] w = (if (Int32.ofInt 4) ≤ x2 then (some (x1, w)) else (chk x2 4 (x_X2_allSteps 4 [] [some (zr 2 k0), some (zi (x1 + (w.1 12 k0 x2.toNatClampNeg))), some (zi (x2 + (Int32.ofInt 1)))] w))) := (zev_eq (lf_X2_allSteps _) _ _ _ _).trans rfl
theorem k_X2_allSteps : zLkV yX2_allSteps cX2_allSteps 3 (some .int) 2 0 := ⟨(tw2 (i := 85) rfl), (tw2 (i := 86) rfl), (tw1 (i := 4) rfl), (tw2 (i := 87) rfl), ⟨_, _, rfl⟩, rfl, by decide, by decide, by decide +kernel⟩
set_option maxHeartbeats 4000000 in
set_option maxRecDepth 20000 in
theorem a_X2_allSteps {l : Launch} {D : va_G} {ad : Nat → Nat → Nat} {cA : Nat → ClassId} (hI : zInj ad) {ρ : Type} (X : ρ) : zAns l D ad cA yX2_allSteps cX2_allSteps 3 (some .int) 0 0 X (fun as => ∃ i as', as = zr 2 i :: as') (cI g_X2_allSteps) := by
  intro as w Kf hv h
  obtain ⟨q, h1, h2⟩ := oC_inv h
  unfold g_X2_allSteps at h1
  obtain ⟨tk0, k0, r, rfl, h1_1⟩ := pR_inv h1
  obtain ⟨bk0, h1_1z⟩ := zif_inv h1_1
  cases Nat.eq_of_beq_eq_true bk0
  obtain ⟨rfl, h3⟩ := pE_inv h1_1z
  exact ⟨_, _, ⟨_, _, rfl⟩, h2, trivial, zmeth (cM := cm_X2_allSteps _) (bl := bl_X2_allSteps) (ret := rI) hI (by decide) fl_X2 ll_X2 (lf_X2_allSteps _) bk_X2_allSteps (Nat.le_of_ble_eq_true rfl) hv (fun hF => zml_nil) (fun hF hr hk => zrt_I hF hr hk) h3⟩
