def bl_X5_noteHeldLocks : ZBl := [(0, none, [(.iconst 0, 1, 0, []), (.istore_n 1, 1, 0, [])]), (2, some [true, true, false], [(.iload_n 1, 1, 0, []), (.iconst 4, 1, 0, []), (.if_icmp .ge 43, 3, 47, [])]), (7, none, [(.iconst 0, 1, 0, []), (.istore_n 2, 1, 0, [])]), (9, some [true, true, true], [(.iload_n 2, 1, 0, []), (.bipush 8, 2, 0, []), (.if_icmp .ge 29, 3, 41, [])]), (15, none, [(.aload_n 0, 1, 0, []), (.getfield 18, 3, 0, []), (.iload_n 1, 1, 0, []), (.bipush 8, 2, 0, []), (.imul, 1, 0, []), (.iload_n 2, 1, 0, []), (.iadd, 1, 0, []), (.aload_n 0, 1, 0, []), (.getfield 12, 3, 0, []), (.iload_n 1, 1, 0, []), (.iload_n 2, 1, 0, []), (.invokevirtual 79, 3, 0, []), (.iastore, 1, 0, []), (.iinc 2 1, 3, 0, []), (.goto (-29), 3, 9, [])]), (41, none, [(.iinc 1 1, 3, 0, []), (.goto (-42), 3, 2, [])]), (47, none, [(.return_, 1, 0, [])])]
set_option maxRecDepth 20000 in
theorem bk_X5_noteHeldLocks : zdb cX5_noteHeldLocks 3 bl_X5_noteHeldLocks = true := by decide +kernel
noncomputable def cm_X5_noteHeldLocks (ρ : Type) : List (Nat × Nat × ZCall ρ) := [(158, 3, cI g_X2_heldAfter)]
theorem lf_X5_noteHeldLocks (ρ : Type) : LfM (cm_X5_noteHeldLocks ρ) := lfm_of (lfm_cons (lfc_I g_X2_heldAfter) lfm_n)
noncomputable def x_X5_noteHeldLocks : ZJ Wd := zev cF_X5 cL_X5 bl_X5_noteHeldLocks (cm_X5_noteHeldLocks Wd) rV
noncomputable def f_X5_noteHeldLocks (k0 : Nat) (w : Wd) : Option Wd := x_X5_noteHeldLocks 0 [] [some (zr 5 k0), none, none] w
noncomputable def g_X5_noteHeldLocks (r : List ZV) (w : Wd) : Option Wd := pR r fun tk0 k0 r => zif (Nat.beq tk0 5) (pE r (f_X5_noteHeldLocks k0 w))
set_option maxRecDepth 20000 in
theorem e_X5_noteHeldLocks (k0 : Nat) (w : Wd) : f_X5_noteHeldLocks k0 w = (x_X5_noteHeldLocks 2 [] [some (zr 5 k0), some (zi (Int32.ofInt 0)), none] w) := (zev_eq (lf_X5_noteHeldLocks _) _ _ _ _).trans rfl
set_option maxRecDepth 20000 in
theorem e_X5_noteHeldLocks_2 (k0 : Nat) (x1 : Int32) (w : Wd) : x_X5_noteHeldLocks 2 [] [some (zr 5 k0), some (zi x1), none] w = (if (Int32.ofInt 4) ≤ x1 then (some w) else (x_X5_noteHeldLocks 9 [] [some (zr 5 k0), some (zi x1), some (zi (Int32.ofInt 0))] w)) := (zev_eq (lf_X5_noteHeldLocks _) _ _ _ _).trans rfl
set_option maxRecDepth 20000 in
theorem e_X5_noteHeldLocks_9 (k0 : Nat) (x1 : Int32) (x2 : Int32) (w : Wd) : x_X5_noteHeldLocks 9 [] [some (zr 5 k0), some (zi x1), some (zi x2)] w = (if (Int32.ofInt 8) ≤ x2 then (x_X5_noteHeldLocks 2 [] [some (zr 5 k0), some (zi (x1 + (Int32.ofInt 1))), none] w) else (oC (f_X2_heldAfter 10 x1 x2 w) fun q1 => (chk ((x1 * (Int32.ofInt 8)) + x2) 32 (x_X5_noteHeldLocks 9 [] [some (zr 5 k0), some (zi x1), some (zi (x2 + (Int32.ofInt 1)))] (wI q1.2 18 0 ((x1 * (Int32.ofInt 8)) + x2).toNatClampNeg q1.1))))) := (zev_eq (lf_X5_noteHeldLocks _) _ _ _ _).trans rfl
theorem k_X5_noteHeldLocks : zLkV yX5_noteHeldLocks cX5_noteHeldLocks 3 none 5 0 := ⟨(tw2 (i := 125) rfl), (twp (n := 12) (List.mem_append_left _ (List.mem_of_getElem? (i := 4) rfl))), (tw1 (i := 7) rfl), (tw2 (i := 126) rfl), ⟨_, _, rfl⟩, rfl, by decide, by decide, by decide +kernel⟩
set_option maxHeartbeats 4000000 in
set_option maxRecDepth 20000 in
theorem a_X5_noteHeldLocks {l : Launch} {D : va_G} {ad : Nat → Nat → Nat} {cA : Nat → ClassId} (hI : zInj ad) {ρ : Type} (X : ρ) : zAns l D ad cA yX5_noteHeldLocks cX5_noteHeldLocks 3 none 2 47 X (fun as => ∃ i as', as = zr 5 i :: as') (cV g_X5_noteHeldLocks) := by
  intro as w Kf hv h
  obtain ⟨q, h1, h2⟩ := oC_inv h
  unfold g_X5_noteHeldLocks at h1
  obtain ⟨tk0, k0, r, rfl, h1_1⟩ := pR_inv h1
  obtain ⟨bk0, h1_1z⟩ := zif_inv h1_1
  cases Nat.eq_of_beq_eq_true bk0
  obtain ⟨rfl, h3⟩ := pE_inv h1_1z
  exact ⟨_, _, ⟨_, _, rfl⟩, h2, trivial, zmeth (cM := cm_X5_noteHeldLocks _) (bl := bl_X5_noteHeldLocks) (ret := rV) hI (by decide) fl_X5 ll_X5 (lf_X5_noteHeldLocks _) bk_X5_noteHeldLocks (Nat.le_of_ble_eq_true rfl) hv (fun hF => (zml_cons (zcv hF ⟨Nat.le_refl _, Nat.le_refl _⟩ rfl (tw2 (i := 127) rfl) k_X2_heldAfter ⟨by decide, by decide⟩ (a_X2_heldAfter hI _)) zml_nil)) (fun hF hr hk => zrt_V hF hr hk) h3⟩
def bl_X5_isReachable : ZBl := [(0, none, [(.aload_n 0, 1, 0, []), (.getfield 25, 3, 0, []), (.iload_n 1, 1, 0, []), (.laload, 1, 0, []), (.lconst 0, 1, 0, []), (.lcmp, 1, 0, []), (.ifCond .eq 7, 3, 15, [])]), (11, none, [(.iconst 1, 1, 0, []), (.goto 4, 3, 16, [])]), (15, none, [(.iconst 0, 1, 0, [])]), (16, none, [(.ireturn, 1, 0, [])])]
set_option maxRecDepth 20000 in
theorem bk_X5_isReachable : zdb cX5_isReachable 2 bl_X5_isReachable = true := by decide +kernel
noncomputable def cm_X5_isReachable (ρ : Type) : List (Nat × Nat × ZCall ρ) := []
theorem lf_X5_isReachable (ρ : Type) : LfM (cm_X5_isReachable ρ) := lfm_of lfm_n
noncomputable def x_X5_isReachable : ZJ (Int32 × Wd) := zev cF_X5 cL_X5 bl_X5_isReachable (cm_X5_isReachable (Int32 × Wd)) rZ
noncomputable def f_X5_isReachable (k0 : Nat) (x1 : Int32) (w : Wd) : Option (Int32 × Wd) := x_X5_isReachable 0 [] [some (zr 5 k0), some (zi x1)] w
noncomputable def g_X5_isReachable (r : List ZV) (w : Wd) : Option (Int32 × Wd) := pR r fun tk0 k0 r => zif (Nat.beq tk0 5) (pI r fun x1 r => pE r (f_X5_isReachable k0 x1 w))
set_option maxRecDepth 20000 in
theorem e_X5_isReachable (k0 : Nat) (x1 : Int32) (w : Wd) : f_X5_isReachable k0 x1 w = (chk x1 4096 (if (lg_cmp (w.2 17 1 x1.toNatClampNeg) (Int64.ofInt 0)) = 0 then (zb (Int32.ofInt 0) (some ((Int32.ofInt 0), w))) else (zb (Int32.ofInt 1) (some ((Int32.ofInt 1), w))))) := (zev_eq (lf_X5_isReachable _) _ _ _ _).trans rfl
theorem k_X5_isReachable : zLkV yX5_isReachable cX5_isReachable 2 (some .boolean) 5 1 := ⟨(tw2 (i := 136) rfl), (twp (n := 12) (List.mem_append_left _ (List.mem_of_getElem? (i := 5) rfl))), (tw1 (i := 7) rfl), (tw2 (i := 137) rfl), ⟨_, _, rfl⟩, rfl, by decide, by decide, by decide +kernel⟩
set_option maxHeartbeats 4000000 in
set_option maxRecDepth 20000 in
theorem a_X5_isReachable {l : Launch} {D : va_G} {ad : Nat → Nat → Nat} {cA : Nat → ClassId} (hI : zInj ad) {ρ : Type} (X : ρ) : zAns l D ad cA yX5_isReachable cX5_isReachable 2 (some .boolean) 0 0 X (fun as => ∃ i as', as = zr 5 i :: as') (cI g_X5_isReachable) := by
  intro as w Kf hv h
  obtain ⟨q, h1, h2⟩ := oC_inv h
  unfold g_X5_isReachable at h1
  obtain ⟨tk0, k0, r, rfl, h1_1⟩ := pR_inv h1
  obtain ⟨bk0, h1_1z⟩ := zif_inv h1_1
  cases Nat.eq_of_beq_eq_true bk0
  obtain ⟨x1, r, rfl, h1_2⟩ := pI_inv h1_1z
  obtain ⟨rfl, h3⟩ := pE_inv h1_2
  exact ⟨_, _, ⟨_, _, rfl⟩, h2, trivial, zmeth (cM := cm_X5_isReachable _) (bl := bl_X5_isReachable) (ret := rZ) hI (by decide) fl_X5 ll_X5 (lf_X5_isReachable _) bk_X5_isReachable (Nat.le_of_ble_eq_true rfl) hv (fun hF => zml_nil) (fun hF hr hk => zrt_Z hF hr hk) h3⟩
def bl_X5_heldLocks : ZBl := [(0, none, [(.iconst 0, 1, 0, []), (.istore_n 2, 1, 0, []), (.iconst 0, 1, 0, []), (.istore_n 3, 1, 0, [])]), (4, some [true, true, true, true], [(.iload_n 3, 1, 0, []), (.iconst 4, 1, 0, []), (.if_icmp .ge 27, 3, 33, [])]), (9, none, [(.iload_n 2, 1, 0, []), (.aload_n 0, 1, 0, []), (.getfield 18, 3, 0, []), (.iload_n 3, 1, 0, []), (.bipush 8, 2, 0, []), (.imul, 1, 0, []), (.iload_n 1, 1, 0, []), (.iload_n 3, 1, 0, []), (.invokestatic 109, 3, 0, []), (.iadd, 1, 0, []), (.iaload, 1, 0, []), (.ior, 1, 0, []), (.istore_n 2, 1, 0, []), (.iinc 3 1, 3, 0, []), (.goto (-26), 3, 4, [])]), (33, none, [(.iload_n 2, 1, 0, []), (.ireturn, 1, 0, [])])]
set_option maxRecDepth 20000 in
theorem bk_X5_heldLocks : zdb cX5_heldLocks 4 bl_X5_heldLocks = true := by decide +kernel
noncomputable def cm_X5_heldLocks (ρ : Type) : List (Nat × Nat × ZCall ρ) := [(219, 2, cI g_X7_doneBy)]
theorem lf_X5_heldLocks (ρ : Type) : LfM (cm_X5_heldLocks ρ) := lfm_of (lfm_cons (lfc_I g_X7_doneBy) lfm_n)
noncomputable def x_X5_heldLocks : ZJ (Int32 × Wd) := zev cF_X5 cL_X5 bl_X5_heldLocks (cm_X5_heldLocks (Int32 × Wd)) rI
noncomputable def f_X5_heldLocks (k0 : Nat) (x1 : Int32) (w : Wd) : Option (Int32 × Wd) := x_X5_heldLocks 0 [] [some (zr 5 k0), some (zi x1), none, none] w
noncomputable def g_X5_heldLocks (r : List ZV) (w : Wd) : Option (Int32 × Wd) := pR r fun tk0 k0 r => zif (Nat.beq tk0 5) (pI r fun x1 r => pE r (f_X5_heldLocks k0 x1 w))
set_option maxRecDepth 20000 in
theorem e_X5_heldLocks (k0 : Nat) (x1 : Int32) (w : Wd) : f_X5_heldLocks k0 x1 w = (x_X5_heldLocks 4 [] [some (zr 5 k0), some (zi x1), some (zi (Int32.ofInt 0)), some (zi (Int32.ofInt 0))] w) := (zev_eq (lf_X5_heldLocks _) _ _ _ _).trans rfl
set_option maxRecDepth 20000 in
theorem e_X5_heldLocks_4 (k0 : Nat) (x1 : Int32) (x2 : Int32) (x3 : Int32) (w : Wd) : x_X5_heldLocks 4 [] [some (zr 5 k0), some (zi x1), some (zi x2), some (zi x3)] w = (if (Int32.ofInt 4) ≤ x3 then (some (x2, w)) else (oC (f_X7_doneBy x1 x3 w) fun q1 => (chk ((x3 * (Int32.ofInt 8)) + q1.1) 32 (x_X5_heldLocks 4 [] [some (zr 5 k0), some (zi x1), some (zi (x2 ||| (q1.2.1 18 0 ((x3 * (Int32.ofInt 8)) + q1.1).toNatClampNeg))), some (zi (x3 + (Int32.ofInt 1)))] q1.2)))) := (zev_eq (lf_X5_heldLocks _) _ _ _ _).trans rfl
theorem k_X5_heldLocks : zLkV yX5_heldLocks cX5_heldLocks 4 (some .int) 5 1 := ⟨(tw2 (i := 147) rfl), (tw2 (i := 148) rfl), (tw1 (i := 7) rfl), (tw2 (i := 149) rfl), ⟨_, _, rfl⟩, rfl, by decide, by decide, by decide +kernel⟩
set_option maxHeartbeats 4000000 in
set_option maxRecDepth 20000 in
theorem a_X5_heldLocks {l : Launch} {D : va_G} {ad : Nat → Nat → Nat} {cA : Nat → ClassId} (hI : zInj ad) {ρ : Type} (X : ρ) : zAns l D ad cA yX5_heldLocks cX5_heldLocks 4 (some .int) 1 21 X (fun as => ∃ i as', as = zr 5 i :: as') (cI g_X5_heldLocks) := by
  intro as w Kf hv h
  obtain ⟨q, h1, h2⟩ := oC_inv h
  unfold g_X5_heldLocks at h1
  obtain ⟨tk0, k0, r, rfl, h1_1⟩ := pR_inv h1
  obtain ⟨bk0, h1_1z⟩ := zif_inv h1_1
  cases Nat.eq_of_beq_eq_true bk0
  obtain ⟨x1, r, rfl, h1_2⟩ := pI_inv h1_1z
  obtain ⟨rfl, h3⟩ := pE_inv h1_2
  exact ⟨_, _, ⟨_, _, rfl⟩, h2, trivial, zmeth (cM := cm_X5_heldLocks _) (bl := bl_X5_heldLocks) (ret := rI) hI (by decide) fl_X5 ll_X5 (lf_X5_heldLocks _) bk_X5_heldLocks (Nat.le_of_ble_eq_true rfl) hv (fun hF => (zml_cons (zcn hF ⟨Nat.le_refl _, Nat.le_refl _⟩ rfl (tw2 (i := 150) rfl) k_X7_doneBy ⟨by decide, by decide⟩ (a_X7_doneBy hI _)) zml_nil)) (fun hF hr hk => zrt_I hF hr hk) h3⟩
def bl_X5_nextStep : ZBl := [(0, none, [(.aload_n 0, 1, 0, []), (.getfield 12, 3, 0, []), (.iload_n 2, 1, 0, []), (.iload_n 1, 1, 0, []), (.iload_n 2, 1, 0, []), (.invokestatic 109, 3, 0, []), (.invokevirtual 112, 3, 0, []), (.ireturn, 1, 0, [])])]
set_option maxRecDepth 20000 in
theorem bk_X5_nextStep : zdb cX5_nextStep 3 bl_X5_nextStep = true := by decide +kernel
noncomputable def cm_X5_nextStep (ρ : Type) : List (Nat × Nat × ZCall ρ) := [(219, 2, cI g_X7_doneBy), (224, 3, cI g_X2_stepOf)]
theorem lf_X5_nextStep (ρ : Type) : LfM (cm_X5_nextStep ρ) := lfm_of (lfm_cons (lfc_I g_X7_doneBy) (lfm_cons (lfc_I g_X2_stepOf) lfm_n))
noncomputable def x_X5_nextStep : ZJ (Int32 × Wd) := zev cF_X5 cL_X5 bl_X5_nextStep (cm_X5_nextStep (Int32 × Wd)) rI
noncomputable def f_X5_nextStep (k0 : Nat) (x1 : Int32) (x2 : Int32) (w : Wd) : Option (Int32 × Wd) := x_X5_nextStep 0 [] [some (zr 5 k0), some (zi x1), some (zi x2)] w
noncomputable def g_X5_nextStep (r : List ZV) (w : Wd) : Option (Int32 × Wd) := pR r fun tk0 k0 r => zif (Nat.beq tk0 5) (pI r fun x1 r => pI r fun x2 r => pE r (f_X5_nextStep k0 x1 x2 w))
set_option maxRecDepth 20000 in
theorem e_X5_nextStep (k0 : Nat) (x1 : Int32) (x2 : Int32) (w : Wd) : f_X5_nextStep k0 x1 x2 w = (oC (f_X7_doneBy x1 x2 w) fun q1 => (oC (f_X2_stepOf 10 x2 q1.1 q1.2) fun q2 => (some (q2.1, q2.2)))) := (zev_eq (lf_X5_nextStep _) _ _ _ _).trans rfl
theorem k_X5_nextStep : zLkV yX5_nextStep cX5_nextStep 3 (some .int) 5 2 := ⟨(tw2 (i := 155) rfl), (twp (n := 12) (List.mem_append_left _ (List.mem_of_getElem? (i := 8) rfl))), (tw1 (i := 7) rfl), (tw2 (i := 156) rfl), ⟨_, _, rfl⟩, rfl, by decide, by decide, by decide +kernel⟩
set_option maxHeartbeats 4000000 in
set_option maxRecDepth 20000 in
theorem a_X5_nextStep {l : Launch} {D : va_G} {ad : Nat → Nat → Nat} {cA : Nat → ClassId} (hI : zInj ad) {ρ : Type} (X : ρ) : zAns l D ad cA yX5_nextStep cX5_nextStep 3 (some .int) 1 22 X (fun as => ∃ i as', as = zr 5 i :: as') (cI g_X5_nextStep) := by
  intro as w Kf hv h
  obtain ⟨q, h1, h2⟩ := oC_inv h
  unfold g_X5_nextStep at h1
  obtain ⟨tk0, k0, r, rfl, h1_1⟩ := pR_inv h1
  obtain ⟨bk0, h1_1z⟩ := zif_inv h1_1
  cases Nat.eq_of_beq_eq_true bk0
  obtain ⟨x1, r, rfl, h1_2⟩ := pI_inv h1_1z
  obtain ⟨x2, r, rfl, h1_3⟩ := pI_inv h1_2
  obtain ⟨rfl, h3⟩ := pE_inv h1_3
  exact ⟨_, _, ⟨_, _, rfl⟩, h2, trivial, zmeth (cM := cm_X5_nextStep _) (bl := bl_X5_nextStep) (ret := rI) hI (by decide) fl_X5 ll_X5 (lf_X5_nextStep _) bk_X5_nextStep (Nat.le_of_ble_eq_true rfl) hv (fun hF => (zml_cons (zcn hF ⟨Nat.le_refl _, Nat.le_refl _⟩ rfl (tw2 (i := 150) rfl) k_X7_doneBy ⟨by decide, by decide⟩ (a_X7_doneBy hI _)) (zml_cons (zcv hF ⟨Nat.le_refl _, Nat.le_refl _⟩ rfl (tw2 (i := 157) rfl) k_X2_stepOf ⟨by decide, by decide⟩ (a_X2_stepOf hI _)) zml_nil))) (fun hF hr hk => zrt_I hF hr hk) h3⟩
def bl_X5_threadsThatCanGo : ZBl := [(0, none, [(.aload_n 0, 1, 0, []), (.iload_n 1, 1, 0, []), (.invokevirtual 94, 3, 0, []), (.istore_n 2, 1, 0, []), (.iconst 0, 1, 0, []), (.istore_n 3, 1, 0, []), (.iconst 0, 1, 0, []), (.istore 4, 2, 0, [])]), (11, some [true, true, true, true, true, false, false], [(.iload 4, 2, 0, []), (.iconst 4, 1, 0, []), (.if_icmp .ge 65, 3, 79, [])]), (17, none, [(.aload_n 0, 1, 0, []), (.iload_n 1, 1, 0, []), (.iload 4, 2, 0, []), (.invokevirtual 97, 3, 0, []), (.istore 5, 2, 0, []), (.iload 5, 2, 0, []), (.invokestatic 100, 3, 0, []), (.iconst 2, 1, 0, []), (.if_icmp .ne 19, 3, 51, [])]), (35, none, [(.iload 5, 2, 0, []), (.invokestatic 103, 3, 0, []), (.iload_n 2, 1, 0, []), (.invokestatic 87, 3, 0, []), (.ifCond .eq 7, 3, 51, [])]), (47, none, [(.iconst 1, 1, 0, []), (.goto 4, 3, 52, [])]), (51, none, [(.iconst 0, 1, 0, [])]), (52, some [true, true, true, true, true, true, false], [(.istore 6, 2, 0, []), (.iload 5, 2, 0, []), (.iconst (-1), 1, 0, []), (.if_icmp .eq 16, 3, 73, [])]), (60, none, [(.iload 6, 2, 0, []), (.ifCond .ne 11, 3, 73, [])]), (65, none, [(.iload_n 3, 1, 0, []), (.iload 4, 2, 0, []), (.invokestatic 106, 3, 0, []), (.ior, 1, 0, []), (.istore_n 3, 1, 0, [])]), (73, none, [(.iinc 4 1, 3, 0, []), (.goto (-65), 3, 11, [])]), (79, none, [(.iload_n 3, 1, 0, []), (.ireturn, 1, 0, [])])]
set_option maxRecDepth 20000 in
theorem bk_X5_threadsThatCanGo : zdb cX5_threadsThatCanGo 7 bl_X5_threadsThatCanGo = true := by decide +kernel
noncomputable def cm_X5_threadsThatCanGo (ρ : Type) : List (Nat × Nat × ZCall ρ) := [(188, 2, cI g_X5_heldLocks), (194, 3, cI g_X5_nextStep), (201, 1, cI g_X7_kindOf), (207, 1, cI g_X7_nameOf), (175, 2, cI g_X7_isIn), (213, 1, cI g_X7_setOf)]
theorem lf_X5_threadsThatCanGo (ρ : Type) : LfM (cm_X5_threadsThatCanGo ρ) := lfm_of (lfm_cons (lfc_I g_X5_heldLocks) (lfm_cons (lfc_I g_X5_nextStep) (lfm_cons (lfc_I g_X7_kindOf) (lfm_cons (lfc_I g_X7_nameOf) (lfm_cons (lfc_I g_X7_isIn) (lfm_cons (lfc_I g_X7_setOf) lfm_n))))))
noncomputable def x_X5_threadsThatCanGo : ZJ (Int32 × Wd) := zev cF_X5 cL_X5 bl_X5_threadsThatCanGo (cm_X5_threadsThatCanGo (Int32 × Wd)) rI
noncomputable def f_X5_threadsThatCanGo (k0 : Nat) (x1 : Int32) (w : Wd) : Option (Int32 × Wd) := x_X5_threadsThatCanGo 0 [] [some (zr 5 k0), some (zi x1), none, none, none, none, none] w
noncomputable def g_X5_threadsThatCanGo (r : List ZV) (w : Wd) : Option (Int32 × Wd) := pR r fun tk0 k0 r => zif (Nat.beq tk0 5) (pI r fun x1 r => pE r (f_X5_threadsThatCanGo k0 x1 w))
set_option maxRecDepth 20000 in
theorem e_X5_threadsThatCanGo (k0 : Nat) (x1 : Int32) (w : Wd) : f_X5_threadsThatCanGo k0 x1 w = (oC (f_X5_heldLocks k0 x1 w) fun q1 => (x_X5_threadsThatCanGo 11 [] [some (zr 5 k0), some (zi x1), some (zi q1.1), some (zi (Int32.ofInt 0)), some (zi (Int32.ofInt 0)), none, none] q1.2)) := (zev_eq (lf_X5_threadsThatCanGo _) _ _ _ _).trans rfl
set_option maxRecDepth 20000 in
theorem e_X5_threadsThatCanGo_11 (k0 : Nat) (x1 : Int32) (x2 : Int32) (x3 : Int32) (x4 : Int32) (w : Wd) : x_X5_threadsThatCanGo 11 [] [some (zr 5 k0), some (zi x1), some (zi x2), some (zi x3), some (zi x4), none, none] w = (if (Int32.ofInt 4) ≤ x4 then (some (x3, w)) else (oC (f_X5_nextStep k0 x1 x4 w) fun q1 => (oC (f_X7_kindOf q1.1 q1.2) fun q2 => (if q2.1 = (Int32.ofInt 2) then (oC (f_X7_nameOf q1.1 q2.2) fun q3 => (oC (f_X7_isIn q3.1 x2 q3.2) fun q4 => (if q4.1 = 0 then (x_X5_threadsThatCanGo 52 [zi (Int32.ofInt 0)] [some (zr 5 k0), some (zi x1), some (zi x2), some (zi x3), some (zi x4), some (zi q1.1), none] q4.2) else (x_X5_threadsThatCanGo 52 [zi (Int32.ofInt 1)] [some (zr 5 k0), some (zi x1), some (zi x2), some (zi x3), some (zi x4), some (zi q1.1), none] q4.2)))) else (x_X5_threadsThatCanGo 52 [zi (Int32.ofInt 0)] [some (zr 5 k0), some (zi x1), some (zi x2), some (zi x3), some (zi x4), some (zi q1.1), none] q2.2))))) := (zev_eq (lf_X5_threadsThatCanGo _) _ _ _ _).trans rfl
set_option maxRecDepth 20000 in
theorem e_X5_threadsThatCanGo_52 (s0 : Int32) (k0 : Nat) (x1 : Int32) (x2 : Int32) (x3 : Int32) (x4 : Int32) (x5 : Int32) (w : Wd) : x_X5_threadsThatCanGo 52 [zi s0] [some (zr 5 k0), some (zi x1), some (zi x2), some (zi x3), some (zi x4), some (zi x5), none] w = (if x5 = (Int32.ofInt (-1)) then (x_X5_threadsThatCanGo 11 [] [some (zr 5 k0), some (zi x1), some (zi x2), some (zi x3), some (zi (x4 + (Int32.ofInt 1))), none, none] w) else (if s0 = 0 then (oC (f_X7_setOf x4 w) fun q1 => (x_X5_threadsThatCanGo 11 [] [some (zr 5 k0), some (zi x1), some (zi x2), some (zi (x3 ||| q1.1)), some (zi (x4 + (Int32.ofInt 1))), none, none] q1.2)) else (x_X5_threadsThatCanGo 11 [] [some (zr 5 k0), some (zi x1), some (zi x2), some (zi x3), some (zi (x4 + (Int32.ofInt 1))), none, none] w))) := (zev_eq (lf_X5_threadsThatCanGo _) _ _ _ _).trans rfl
theorem k_X5_threadsThatCanGo : zLkV yX5_threadsThatCanGo cX5_threadsThatCanGo 7 (some .int) 5 1 := ⟨(tw2 (i := 144) rfl), (twp (n := 12) (List.mem_append_left _ (List.mem_of_getElem? (i := 7) rfl))), (tw1 (i := 7) rfl), (tw2 (i := 145) rfl), ⟨_, _, rfl⟩, rfl, by decide, by decide, by decide +kernel⟩
set_option maxHeartbeats 4000000 in
set_option maxRecDepth 20000 in
theorem a_X5_threadsThatCanGo {l : Launch} {D : va_G} {ad : Nat → Nat → Nat} {cA : Nat → ClassId} (hI : zInj ad) {ρ : Type} (X : ρ) : zAns l D ad cA yX5_threadsThatCanGo cX5_threadsThatCanGo 7 (some .int) 2 44 X (fun as => ∃ i as', as = zr 5 i :: as') (cI g_X5_threadsThatCanGo) := by
  intro as w Kf hv h
  obtain ⟨q, h1, h2⟩ := oC_inv h
  unfold g_X5_threadsThatCanGo at h1
  obtain ⟨tk0, k0, r, rfl, h1_1⟩ := pR_inv h1
  obtain ⟨bk0, h1_1z⟩ := zif_inv h1_1
  cases Nat.eq_of_beq_eq_true bk0
  obtain ⟨x1, r, rfl, h1_2⟩ := pI_inv h1_1z
  obtain ⟨rfl, h3⟩ := pE_inv h1_2
  exact ⟨_, _, ⟨_, _, rfl⟩, h2, trivial, zmeth (cM := cm_X5_threadsThatCanGo _) (bl := bl_X5_threadsThatCanGo) (ret := rI) hI (by decide) fl_X5 ll_X5 (lf_X5_threadsThatCanGo _) bk_X5_threadsThatCanGo (Nat.le_of_ble_eq_true rfl) hv (fun hF => (zml_cons (zcv hF ⟨Nat.le_refl _, Nat.le_refl _⟩ rfl (tw2 (i := 146) rfl) k_X5_heldLocks ⟨by decide, by decide⟩ (a_X5_heldLocks hI _)) (zml_cons (zcv hF ⟨Nat.le_refl _, Nat.le_refl _⟩ rfl (tw2 (i := 153) rfl) k_X5_nextStep ⟨by decide, by decide⟩ (a_X5_nextStep hI _)) (zml_cons (zcn hF ⟨Nat.le_refl _, Nat.le_refl _⟩ rfl (tw2 (i := 158) rfl) k_X7_kindOf ⟨by decide, by decide⟩ (a_X7_kindOf hI _)) (zml_cons (zcn hF ⟨Nat.le_refl _, Nat.le_refl _⟩ rfl (tw2 (i := 159) rfl) k_X7_nameOf ⟨by decide, by decide⟩ (a_X7_nameOf hI _)) (zml_cons (zcn hF ⟨Nat.le_refl _, Nat.le_refl _⟩ rfl (tw2 (i := 160) rfl) k_X7_isIn ⟨by decide, by decide⟩ (a_X7_isIn hI _)) (zml_cons (zcn hF ⟨Nat.le_refl _, Nat.le_refl _⟩ rfl (tw2 (i := 161) rfl) k_X7_setOf ⟨by decide, by decide⟩ (a_X7_setOf hI _)) zml_nil))))))) (fun hF hr hk => zrt_I hF hr hk) h3⟩
def bl_X5_goFrom : ZBl := [(0, none, [(.aload_n 0, 1, 0, []), (.getfield 22, 3, 0, []), (.iload_n 1, 1, 0, []), (.aload_n 0, 1, 0, []), (.iload_n 1, 1, 0, []), (.invokevirtual 83, 3, 0, []), (.iastore, 1, 0, []), (.iconst 0, 1, 0, []), (.istore_n 2, 1, 0, [])]), (13, some [true, true, true], [(.iload_n 2, 1, 0, []), (.iconst 4, 1, 0, []), (.if_icmp .ge 41, 3, 56, [])]), (18, none, [(.iload_n 2, 1, 0, []), (.aload_n 0, 1, 0, []), (.getfield 22, 3, 0, []), (.iload_n 1, 1, 0, []), (.iaload, 1, 0, []), (.invokestatic 87, 3, 0, []), (.ifCond .eq 22, 3, 50, [])]), (31, none, [(.aload_n 0, 1, 0, []), (.getfield 25, 3, 0, []), (.iload_n 1, 1, 0, []), (.iload_n 2, 1, 0, []), (.invokestatic 91, 3, 0, []), (.dup2, 1, 0, []), (.laload, 1, 0, []), (.aload_n 0, 1, 0, []), (.getfield 25, 3, 0, []), (.iload_n 1, 1, 0, []), (.laload, 1, 0, []), (.ladd, 1, 0, []), (.lastore, 1, 0, [])]), (50, none, [(.iinc 2 1, 3, 0, []), (.goto (-40), 3, 13, [])]), (56, none, [(.return_, 1, 0, [])])]
set_option maxRecDepth 20000 in
theorem bk_X5_goFrom : zdb cX5_goFrom 3 bl_X5_goFrom = true := by decide +kernel
noncomputable def cm_X5_goFrom (ρ : Type) : List (Nat × Nat × ZCall ρ) := [(166, 2, cI g_X5_threadsThatCanGo), (175, 2, cI g_X7_isIn), (183, 2, cI g_X7_standAfter)]
theorem lf_X5_goFrom (ρ : Type) : LfM (cm_X5_goFrom ρ) := lfm_of (lfm_cons (lfc_I g_X5_threadsThatCanGo) (lfm_cons (lfc_I g_X7_isIn) (lfm_cons (lfc_I g_X7_standAfter) lfm_n)))
noncomputable def x_X5_goFrom : ZJ Wd := zev cF_X5 cL_X5 bl_X5_goFrom (cm_X5_goFrom Wd) rV
noncomputable def f_X5_goFrom (k0 : Nat) (x1 : Int32) (w : Wd) : Option Wd := x_X5_goFrom 0 [] [some (zr 5 k0), some (zi x1), none] w
noncomputable def g_X5_goFrom (r : List ZV) (w : Wd) : Option Wd := pR r fun tk0 k0 r => zif (Nat.beq tk0 5) (pI r fun x1 r => pE r (f_X5_goFrom k0 x1 w))
set_option maxRecDepth 20000 in
theorem e_X5_goFrom (k0 : Nat) (x1 : Int32) (w : Wd) : f_X5_goFrom k0 x1 w = (oC (f_X5_threadsThatCanGo k0 x1 w) fun q1 => (chk x1 4096 (x_X5_goFrom 13 [] [some (zr 5 k0), some (zi x1), some (zi (Int32.ofInt 0))] (wI q1.2 14 1 x1.toNatClampNeg q1.1)))) := (zev_eq (lf_X5_goFrom _) _ _ _ _).trans rfl
set_option maxRecDepth 20000 in
theorem e_X5_goFrom_13 (k0 : Nat) (x1 : Int32) (x2 : Int32) (w : Wd) : x_X5_goFrom 13 [] [some (zr 5 k0), some (zi x1), some (zi x2)] w = (if (Int32.ofInt 4) ≤ x2 then (some w) else (chk x1 4096 (oC (f_X7_isIn x2 (w.1 14 1 x1.toNatClampNeg) w) fun q1 => (if q1.1 = 0 then (x_X5_goFrom 13 [] [some (zr 5 k0), some (zi x1), some (zi (x2 + (Int32.ofInt 1)))] q1.2) else (oC (f_X7_standAfter x1 x2 q1.2) fun q2 => (chk q2.1 4096 (chk x1 4096 (chk q2.1 4096 (x_X5_goFrom 13 [] [some (zr 5 k0), some (zi x1), some (zi (x2 + (Int32.ofInt 1)))] (wL q2.2 17 1 q2.1.toNatClampNeg ((q2.2.2 17 1 q2.1.toNatClampNeg) + (q2.2.2 17 1 x1.toNatClampNeg)))))))))))) := (zev_eq (lf_X5_goFrom _) _ _ _ _).trans rfl
theorem k_X5_goFrom : zLkV yX5_goFrom cX5_goFrom 3 none 5 1 := ⟨(tw2 (i := 140) rfl), (twp (n := 12) (List.mem_append_left _ (List.mem_of_getElem? (i := 6) rfl))), (tw1 (i := 7) rfl), (tw2 (i := 141) rfl), ⟨_, _, rfl⟩, rfl, by decide, by decide, by decide +kernel⟩
set_option maxHeartbeats 4000000 in
set_option maxRecDepth 20000 in
theorem a_X5_goFrom {l : Launch} {D : va_G} {ad : Nat → Nat → Nat} {cA : Nat → ClassId} (hI : zInj ad) {ρ : Type} (X : ρ) : zAns l D ad cA yX5_goFrom cX5_goFrom 3 none 3 70 X (fun as => ∃ i as', as = zr 5 i :: as') (cV g_X5_goFrom) := by
  intro as w Kf hv h
  obtain ⟨q, h1, h2⟩ := oC_inv h
  unfold g_X5_goFrom at h1
  obtain ⟨tk0, k0, r, rfl, h1_1⟩ := pR_inv h1
  obtain ⟨bk0, h1_1z⟩ := zif_inv h1_1
  cases Nat.eq_of_beq_eq_true bk0
  obtain ⟨x1, r, rfl, h1_2⟩ := pI_inv h1_1z
  obtain ⟨rfl, h3⟩ := pE_inv h1_2
  exact ⟨_, _, ⟨_, _, rfl⟩, h2, trivial, zmeth (cM := cm_X5_goFrom _) (bl := bl_X5_goFrom) (ret := rV) hI (by decide) fl_X5 ll_X5 (lf_X5_goFrom _) bk_X5_goFrom (Nat.le_of_ble_eq_true rfl) hv (fun hF => (zml_cons (zcv hF ⟨Nat.le_refl _, Nat.le_refl _⟩ rfl (tw2 (i := 142) rfl) k_X5_threadsThatCanGo ⟨by decide, by decide⟩ (a_X5_threadsThatCanGo hI _)) (zml_cons (zcn hF ⟨Nat.le_refl _, Nat.le_refl _⟩ rfl (tw2 (i := 160) rfl) k_X7_isIn ⟨by decide, by decide⟩ (a_X7_isIn hI _)) (zml_cons (zcn hF ⟨Nat.le_refl _, Nat.le_refl _⟩ rfl (tw2 (i := 162) rfl) k_X7_standAfter ⟨by decide, by decide⟩ (a_X7_standAfter hI _)) zml_nil)))) (fun hF hr hk => zrt_V hF hr hk) h3⟩
def bl_X5_lookAt : ZBl := [(0, none, [(.aload_n 0, 1, 0, []), (.getfield 44, 3, 0, []), (.ifCond .eq 15, 3, 19, [])]), (7, none, [(.aload_n 0, 1, 0, []), (.getfield 12, 3, 0, []), (.aload_n 1, 1, 0, []), (.invokevirtual 48, 3, 0, []), (.ifCond .eq 4, 3, 19, [])]), (18, none, [(.return_, 1, 0, [])]), (19, some [true, true, false], [(.aload_n 0, 1, 0, []), (.getfield 12, 3, 0, []), (.aload_n 1, 1, 0, []), (.invokevirtual 52, 3, 0, []), (.aload_n 0, 1, 0, []), (.iconst 1, 1, 0, []), (.putfield 44, 3, 0, []), (.aload_n 0, 1, 0, []), (.iconst 0, 1, 0, []), (.putfield 56, 3, 0, []), (.aload_n 0, 1, 0, []), (.invokevirtual 59, 3, 0, []), (.aload_n 0, 1, 0, []), (.getfield 22, 3, 0, []), (.iconst 0, 1, 0, []), (.invokestatic 62, 3, 0, []), (.aload_n 0, 1, 0, []), (.getfield 25, 3, 0, []), (.lconst 0, 1, 0, []), (.invokestatic 68, 3, 0, []), (.aload_n 0, 1, 0, []), (.getfield 25, 3, 0, []), (.iconst 0, 1, 0, []), (.lconst 1, 1, 0, []), (.lastore, 1, 0, []), (.iconst 0, 1, 0, []), (.istore_n 2, 1, 0, [])]), (66, some [true, false, true], [(.iload_n 2, 1, 0, []), (.sipush 4096, 3, 0, []), (.if_icmp .ge 22, 3, 92, [])]), (73, none, [(.aload_n 0, 1, 0, []), (.iload_n 2, 1, 0, []), (.invokevirtual 71, 3, 0, []), (.ifCond .eq 8, 3, 86, [])]), (81, none, [(.aload_n 0, 1, 0, []), (.iload_n 2, 1, 0, []), (.invokevirtual 75, 3, 0, [])]), (86, none, [(.iinc 2 1, 3, 0, []), (.goto (-23), 3, 66, [])]), (92, none, [(.return_, 1, 0, [])])]
set_option maxRecDepth 20000 in
theorem bk_X5_lookAt : zdb cX5_lookAt 3 bl_X5_lookAt = true := by decide +kernel
noncomputable def cm_X5_lookAt (ρ : Type) : List (Nat × Nat × ZCall ρ) := [(96, 2, cI g_X2_sameAs), (104, 2, cV g_X2_copyFrom), (118, 1, cV g_X5_noteHeldLocks), (125, 2, cV g_J7_fill_53178), (137, 2, cV g_J7_fill_d0a16), (142, 2, cI g_X5_isReachable), (150, 2, cV g_X5_goFrom)]
theorem lf_X5_lookAt (ρ : Type) : LfM (cm_X5_lookAt ρ) := lfm_of (lfm_cons (lfc_I g_X2_sameAs) (lfm_cons (lfc_V g_X2_copyFrom) (lfm_cons (lfc_V g_X5_noteHeldLocks) (lfm_cons (lfc_V g_J7_fill_53178) (lfm_cons (lfc_V g_J7_fill_d0a16) (lfm_cons (lfc_I g_X5_isReachable) (lfm_cons (lfc_V g_X5_goFrom) lfm_n)))))))
noncomputable def x_X5_lookAt : ZJ Wd := zev cF_X5 cL_X5 bl_X5_lookAt (cm_X5_lookAt Wd) rV
noncomputable def f_X5_lookAt (k0 : Nat) (k1 : Nat) (w : Wd) : Option Wd := x_X5_lookAt 0 [] [some (zr 5 k0), some (zr 2 k1), none] w
noncomputable def g_X5_lookAt (r : List ZV) (w : Wd) : Option Wd := pR r fun tk0 k0 r => zif (Nat.beq tk0 5) (pR r fun tk1 k1 r => zif (Nat.beq tk1 2) (pE r (f_X5_lookAt k0 k1 w)))
set_option maxRecDepth 20000 in
theorem e_X5_lookAt (k0 : Nat) (k1 : Nat) (w : Wd) : f_X5_lookAt k0 k1 w = (if (w.1 5 k0 1) = 0 then (x_X5_lookAt 19 [] [some (zr 5 k0), some (zr 2 k1), none] w) else (oC (f_X2_sameAs 10 k1 w) fun q1 => (if q1.1 = 0 then (x_X5_lookAt 19 [] [some (zr 5 k0), some (zr 2 k1), none] q1.2) else (some q1.2)))) := (zev_eq (lf_X5_lookAt _) _ _ _ _).trans rfl
set_option maxRecDepth 20000 in
theorem e_X5_lookAt_19 (k0 : Nat) (k1 : Nat) (w : Wd) : x_X5_lookAt 19 [] [some (zr 5 k0), some (zr 2 k1), none] w = (oC (f_X2_copyFrom 10 k1 w) fun q1 => (zb (Int32.ofInt 1) (zb (Int32.ofInt 0) (oC (f_X5_noteHeldLocks k0 (wI (wI q1 5 k0 1 (Int32.ofInt 1)) 5 k0 5 (Int32.ofInt 0))) fun q2 => (oC (f_J7_fill_53178 1 (Int32.ofInt 0) q2) fun q3 => (oC (f_J7_fill_d0a16 1 (Int64.ofInt 0) q3) fun q4 => (chk (Int32.ofInt 0) 4096 (x_X5_lookAt 66 [] [some (zr 5 k0), none, some (zi (Int32.ofInt 0))] (wL q4 17 1 (Int32.ofInt 0).toNatClampNeg (Int64.ofInt 1)))))))))) := (zev_eq (lf_X5_lookAt _) _ _ _ _).trans rfl
set_option maxRecDepth 20000 in
theorem e_X5_lookAt_66 (k0 : Nat) (x2 : Int32) (w : Wd) : x_X5_lookAt 66 [] [some (zr 5 k0), none, some (zi x2)] w = (if (Int32.ofInt 4096) ≤ x2 then (some w) else (oC (f_X5_isReachable k0 x2 w) fun q1 => (if q1.1 = 0 then (x_X5_lookAt 66 [] [some (zr 5 k0), none, some (zi (x2 + (Int32.ofInt 1)))] q1.2) else (oC (f_X5_goFrom k0 x2 q1.2) fun q2 => (x_X5_lookAt 66 [] [some (zr 5 k0), none, some (zi (x2 + (Int32.ofInt 1)))] q2))))) := (zev_eq (lf_X5_lookAt _) _ _ _ _).trans rfl
theorem k_X5_lookAt : zLkV yX5_lookAt cX5_lookAt 3 none 5 1 := ⟨(tw2 (i := 115) rfl), (tw2 (i := 116) rfl), (tw1 (i := 7) rfl), (tw2 (i := 117) rfl), ⟨_, _, rfl⟩, rfl, by decide, by decide, by decide +kernel⟩
set_option maxHeartbeats 4000000 in
set_option maxRecDepth 20000 in
theorem a_X5_lookAt {l : Launch} {D : va_G} {ad : Nat → Nat → Nat} {cA : Nat → ClassId} (hI : zInj ad) {ρ : Type} (X : ρ) : zAns l D ad cA yX5_lookAt cX5_lookAt 3 none 4 92 X (fun as => ∃ i as', as = zr 5 i :: as') (cV g_X5_lookAt) := by
  intro as w Kf hv h
  obtain ⟨q, h1, h2⟩ := oC_inv h
  unfold g_X5_lookAt at h1
  obtain ⟨tk0, k0, r, rfl, h1_1⟩ := pR_inv h1
  obtain ⟨bk0, h1_1z⟩ := zif_inv h1_1
  cases Nat.eq_of_beq_eq_true bk0
  obtain ⟨tk1, k1, r, rfl, h1_2⟩ := pR_inv h1_1z
  obtain ⟨bk1, h1_2z⟩ := zif_inv h1_2
  cases Nat.eq_of_beq_eq_true bk1
  obtain ⟨rfl, h3⟩ := pE_inv h1_2z
  exact ⟨_, _, ⟨_, _, rfl⟩, h2, trivial, zmeth (cM := cm_X5_lookAt _) (bl := bl_X5_lookAt) (ret := rV) hI (by decide) fl_X5 ll_X5 (lf_X5_lookAt _) bk_X5_lookAt (Nat.le_of_ble_eq_true rfl) hv (fun hF => (zml_cons (zcv hF ⟨Nat.le_refl _, Nat.le_refl _⟩ rfl (tw2 (i := 118) rfl) k_X2_sameAs ⟨by decide, by decide⟩ (a_X2_sameAs hI _)) (zml_cons (zcv hF ⟨Nat.le_refl _, Nat.le_refl _⟩ rfl (tw2 (i := 122) rfl) k_X2_copyFrom ⟨by decide, by decide⟩ (a_X2_copyFrom hI _)) (zml_cons (zcv hF ⟨Nat.le_refl _, Nat.le_refl _⟩ rfl (tw2 (i := 123) rfl) k_X5_noteHeldLocks ⟨by decide, by decide⟩ (a_X5_noteHeldLocks hI _)) (zml_cons (zcs hF ⟨Nat.le_refl _, Nat.le_refl _⟩ rfl (tw2 (i := 128) rfl) k_J7_fill_53178 ⟨by decide, by decide⟩ (a_J7_fill_53178 hI _)) (zml_cons (zcs hF ⟨Nat.le_refl _, Nat.le_refl _⟩ rfl (tw2 (i := 131) rfl) k_J7_fill_d0a16 ⟨by decide, by decide⟩ (a_J7_fill_d0a16 hI _)) (zml_cons (zcv hF ⟨Nat.le_refl _, Nat.le_refl _⟩ rfl (tw2 (i := 134) rfl) k_X5_isReachable ⟨by decide, by decide⟩ (a_X5_isReachable hI _)) (zml_cons (zcv hF ⟨Nat.le_refl _, Nat.le_refl _⟩ rfl (tw2 (i := 138) rfl) k_X5_goFrom ⟨by decide, by decide⟩ (a_X5_goFrom hI _)) zml_nil)))))))) (fun hF hr hk => zrt_V hF hr hk) h3⟩
def bl_X5_unfinishedThreads : ZBl := [(0, none, [(.iconst 0, 1, 0, []), (.istore_n 2, 1, 0, []), (.iconst 0, 1, 0, []), (.istore_n 3, 1, 0, [])]), (4, some [true, true, true, true], [(.iload_n 3, 1, 0, []), (.iconst 4, 1, 0, []), (.if_icmp .ge 26, 3, 32, [])]), (9, none, [(.aload_n 0, 1, 0, []), (.iload_n 1, 1, 0, []), (.iload_n 3, 1, 0, []), (.invokevirtual 97, 3, 0, []), (.iconst (-1), 1, 0, []), (.if_icmp .eq 10, 3, 26, [])]), (19, none, [(.iload_n 2, 1, 0, []), (.iload_n 3, 1, 0, []), (.invokestatic 106, 3, 0, []), (.ior, 1, 0, []), (.istore_n 2, 1, 0, [])]), (26, none, [(.iinc 3 1, 3, 0, []), (.goto (-25), 3, 4, [])]), (32, none, [(.iload_n 2, 1, 0, []), (.ireturn, 1, 0, [])])]
set_option maxRecDepth 20000 in
theorem bk_X5_unfinishedThreads : zdb cX5_unfinishedThreads 4 bl_X5_unfinishedThreads = true := by decide +kernel
noncomputable def cm_X5_unfinishedThreads (ρ : Type) : List (Nat × Nat × ZCall ρ) := [(194, 3, cI g_X5_nextStep), (213, 1, cI g_X7_setOf)]
theorem lf_X5_unfinishedThreads (ρ : Type) : LfM (cm_X5_unfinishedThreads ρ) := lfm_of (lfm_cons (lfc_I g_X5_nextStep) (lfm_cons (lfc_I g_X7_setOf) lfm_n))
noncomputable def x_X5_unfinishedThreads : ZJ (Int32 × Wd) := zev cF_X5 cL_X5 bl_X5_unfinishedThreads (cm_X5_unfinishedThreads (Int32 × Wd)) rI
noncomputable def f_X5_unfinishedThreads (k0 : Nat) (x1 : Int32) (w : Wd) : Option (Int32 × Wd) := x_X5_unfinishedThreads 0 [] [some (zr 5 k0), some (zi x1), none, none] w
noncomputable def g_X5_unfinishedThreads (r : List ZV) (w : Wd) : Option (Int32 × Wd) := pR r fun tk0 k0 r => zif (Nat.beq tk0 5) (pI r fun x1 r => pE r (f_X5_unfinishedThreads k0 x1 w))
set_option maxRecDepth 20000 in
theorem e_X5_unfinishedThreads (k0 : Nat) (x1 : Int32) (w : Wd) : f_X5_unfinishedThreads k0 x1 w = (x_X5_unfinishedThreads 4 [] [some (zr 5 k0), some (zi x1), some (zi (Int32.ofInt 0)), some (zi (Int32.ofInt 0))] w) := (zev_eq (lf_X5_unfinishedThreads _) _ _ _ _).trans rfl
set_option maxRecDepth 20000 in
theorem e_X5_unfinishedThreads_4 (k0 : Nat) (x1 : Int32) (x2 : Int32) (x3 : Int32) (w : Wd) : x_X5_unfinishedThreads 4 [] [some (zr 5 k0), some (zi x1), some (zi x2), some (zi x3)] w = (if (Int32.ofInt 4) ≤ x3 then (some (x2, w)) else (oC (f_X5_nextStep k0 x1 x3 w) fun q1 => (if q1.1 = (Int32.ofInt (-1)) then (x_X5_unfinishedThreads 4 [] [some (zr 5 k0), some (zi x1), some (zi x2), some (zi (x3 + (Int32.ofInt 1)))] q1.2) else (oC (f_X7_setOf x3 q1.2) fun q2 => (x_X5_unfinishedThreads 4 [] [some (zr 5 k0), some (zi x1), some (zi (x2 ||| q2.1)), some (zi (x3 + (Int32.ofInt 1)))] q2.2))))) := (zev_eq (lf_X5_unfinishedThreads _) _ _ _ _).trans rfl
theorem k_X5_unfinishedThreads : zLkV yX5_unfinishedThreads cX5_unfinishedThreads 4 (some .int) 5 1 := ⟨(tw2 (i := 186) rfl), (tw2 (i := 187) rfl), (tw1 (i := 7) rfl), (tw2 (i := 188) rfl), ⟨_, _, rfl⟩, rfl, by decide, by decide, by decide +kernel⟩
set_option maxHeartbeats 4000000 in
set_option maxRecDepth 20000 in
theorem a_X5_unfinishedThreads {l : Launch} {D : va_G} {ad : Nat → Nat → Nat} {cA : Nat → ClassId} (hI : zInj ad) {ρ : Type} (X : ρ) : zAns l D ad cA yX5_unfinishedThreads cX5_unfinishedThreads 4 (some .int) 2 44 X (fun as => ∃ i as', as = zr 5 i :: as') (cI g_X5_unfinishedThreads) := by
  intro as w Kf hv h
  obtain ⟨q, h1, h2⟩ := oC_inv h
  unfold g_X5_unfinishedThreads at h1
  obtain ⟨tk0, k0, r, rfl, h1_1⟩ := pR_inv h1
  obtain ⟨bk0, h1_1z⟩ := zif_inv h1_1
  cases Nat.eq_of_beq_eq_true bk0
  obtain ⟨x1, r, rfl, h1_2⟩ := pI_inv h1_1z
  obtain ⟨rfl, h3⟩ := pE_inv h1_2
  exact ⟨_, _, ⟨_, _, rfl⟩, h2, trivial, zmeth (cM := cm_X5_unfinishedThreads _) (bl := bl_X5_unfinishedThreads) (ret := rI) hI (by decide) fl_X5 ll_X5 (lf_X5_unfinishedThreads _) bk_X5_unfinishedThreads (Nat.le_of_ble_eq_true rfl) hv (fun hF => (zml_cons (zcv hF ⟨Nat.le_refl _, Nat.le_refl _⟩ rfl (tw2 (i := 153) rfl) k_X5_nextStep ⟨by decide, by decide⟩ (a_X5_nextStep hI _)) (zml_cons (zcn hF ⟨Nat.le_refl _, Nat.le_refl _⟩ rfl (tw2 (i := 161) rfl) k_X7_setOf ⟨by decide, by decide⟩ (a_X7_setOf hI _)) zml_nil))) (fun hF hr hk => zrt_I hF hr hk) h3⟩
def bl_X5_isEnd : ZBl := [(0, none, [(.aload_n 0, 1, 0, []), (.iload_n 1, 1, 0, []), (.invokevirtual 71, 3, 0, []), (.ifCond .eq 16, 3, 21, [])]), (8, none, [(.aload_n 0, 1, 0, []), (.getfield 22, 3, 0, []), (.iload_n 1, 1, 0, []), (.iaload, 1, 0, []), (.ifCond .ne 7, 3, 21, [])]), (17, none, [(.iconst 1, 1, 0, []), (.goto 4, 3, 22, [])]), (21, none, [(.iconst 0, 1, 0, [])]), (22, none, [(.ireturn, 1, 0, [])])]
set_option maxRecDepth 20000 in
theorem bk_X5_isEnd : zdb cX5_isEnd 2 bl_X5_isEnd = true := by decide +kernel
noncomputable def cm_X5_isEnd (ρ : Type) : List (Nat × Nat × ZCall ρ) := [(142, 2, cI g_X5_isReachable)]
theorem lf_X5_isEnd (ρ : Type) : LfM (cm_X5_isEnd ρ) := lfm_of (lfm_cons (lfc_I g_X5_isReachable) lfm_n)
noncomputable def x_X5_isEnd : ZJ (Int32 × Wd) := zev cF_X5 cL_X5 bl_X5_isEnd (cm_X5_isEnd (Int32 × Wd)) rZ
noncomputable def f_X5_isEnd (k0 : Nat) (x1 : Int32) (w : Wd) : Option (Int32 × Wd) := x_X5_isEnd 0 [] [some (zr 5 k0), some (zi x1)] w
noncomputable def g_X5_isEnd (r : List ZV) (w : Wd) : Option (Int32 × Wd) := pR r fun tk0 k0 r => zif (Nat.beq tk0 5) (pI r fun x1 r => pE r (f_X5_isEnd k0 x1 w))
set_option maxRecDepth 20000 in
theorem e_X5_isEnd (k0 : Nat) (x1 : Int32) (w : Wd) : f_X5_isEnd k0 x1 w = (oC (f_X5_isReachable k0 x1 w) fun q1 => (if q1.1 = 0 then (zb (Int32.ofInt 0) (some ((Int32.ofInt 0), q1.2))) else (chk x1 4096 (if (q1.2.1 14 1 x1.toNatClampNeg) = 0 then (zb (Int32.ofInt 1) (some ((Int32.ofInt 1), q1.2))) else (zb (Int32.ofInt 0) (some ((Int32.ofInt 0), q1.2))))))) := (zev_eq (lf_X5_isEnd _) _ _ _ _).trans rfl
theorem k_X5_isEnd : zLkV yX5_isEnd cX5_isEnd 2 (some .boolean) 5 1 := ⟨(tw2 (i := 175) rfl), (twp (n := 12) (List.mem_append_left _ (List.mem_of_getElem? (i := 9) rfl))), (tw1 (i := 7) rfl), (tw2 (i := 176) rfl), ⟨_, _, rfl⟩, rfl, by decide, by decide, by decide +kernel⟩
set_option maxHeartbeats 4000000 in
set_option maxRecDepth 20000 in
theorem a_X5_isEnd {l : Launch} {D : va_G} {ad : Nat → Nat → Nat} {cA : Nat → ClassId} (hI : zInj ad) {ρ : Type} (X : ρ) : zAns l D ad cA yX5_isEnd cX5_isEnd 2 (some .boolean) 1 21 X (fun as => ∃ i as', as = zr 5 i :: as') (cI g_X5_isEnd) := by
  intro as w Kf hv h
  obtain ⟨q, h1, h2⟩ := oC_inv h
  unfold g_X5_isEnd at h1
  obtain ⟨tk0, k0, r, rfl, h1_1⟩ := pR_inv h1
  obtain ⟨bk0, h1_1z⟩ := zif_inv h1_1
  cases Nat.eq_of_beq_eq_true bk0
  obtain ⟨x1, r, rfl, h1_2⟩ := pI_inv h1_1z
  obtain ⟨rfl, h3⟩ := pE_inv h1_2
  exact ⟨_, _, ⟨_, _, rfl⟩, h2, trivial, zmeth (cM := cm_X5_isEnd _) (bl := bl_X5_isEnd) (ret := rZ) hI (by decide) fl_X5 ll_X5 (lf_X5_isEnd _) bk_X5_isEnd (Nat.le_of_ble_eq_true rfl) hv (fun hF => (zml_cons (zcv hF ⟨Nat.le_refl _, Nat.le_refl _⟩ rfl (tw2 (i := 134) rfl) k_X5_isReachable ⟨by decide, by decide⟩ (a_X5_isReachable hI _)) zml_nil)) (fun hF hr hk => zrt_Z hF hr hk) h3⟩
def bl_X5_isDeadlock : ZBl := [(0, none, [(.aload_n 0, 1, 0, []), (.iload_n 1, 1, 0, []), (.invokevirtual 115, 3, 0, []), (.ifCond .eq 15, 3, 20, [])]), (8, none, [(.aload_n 0, 1, 0, []), (.iload_n 1, 1, 0, []), (.invokevirtual 118, 3, 0, []), (.ifCond .eq 7, 3, 20, [])]), (16, none, [(.iconst 1, 1, 0, []), (.goto 4, 3, 21, [])]), (20, none, [(.iconst 0, 1, 0, [])]), (21, none, [(.ireturn, 1, 0, [])])]
set_option maxRecDepth 20000 in
theorem bk_X5_isDeadlock : zdb cX5_isDeadlock 2 bl_X5_isDeadlock = true := by decide +kernel
noncomputable def cm_X5_isDeadlock (ρ : Type) : List (Nat × Nat × ZCall ρ) := [(230, 2, cI g_X5_isEnd), (236, 2, cI g_X5_unfinishedThreads)]
theorem lf_X5_isDeadlock (ρ : Type) : LfM (cm_X5_isDeadlock ρ) := lfm_of (lfm_cons (lfc_I g_X5_isEnd) (lfm_cons (lfc_I g_X5_unfinishedThreads) lfm_n))
noncomputable def x_X5_isDeadlock : ZJ (Int32 × Wd) := zev cF_X5 cL_X5 bl_X5_isDeadlock (cm_X5_isDeadlock (Int32 × Wd)) rZ
noncomputable def f_X5_isDeadlock (k0 : Nat) (x1 : Int32) (w : Wd) : Option (Int32 × Wd) := x_X5_isDeadlock 0 [] [some (zr 5 k0), some (zi x1)] w
noncomputable def g_X5_isDeadlock (r : List ZV) (w : Wd) : Option (Int32 × Wd) := pR r fun tk0 k0 r => zif (Nat.beq tk0 5) (pI r fun x1 r => pE r (f_X5_isDeadlock k0 x1 w))
set_option maxRecDepth 20000 in
theorem e_X5_isDeadlock (k0 : Nat) (x1 : Int32) (w : Wd) : f_X5_isDeadlock k0 x1 w = (oC (f_X5_isEnd k0 x1 w) fun q1 => (if q1.1 = 0 then (zb (Int32.ofInt 0) (some ((Int32.ofInt 0), q1.2))) else (oC (f_X5_unfinishedThreads k0 x1 q1.2) fun q2 => (if q2.1 = 0 then (zb (Int32.ofInt 0) (some ((Int32.ofInt 0), q2.2))) else (zb (Int32.ofInt 1) (some ((Int32.ofInt 1), q2.2))))))) := (zev_eq (lf_X5_isDeadlock _) _ _ _ _).trans rfl
theorem k_X5_isDeadlock : zLkV yX5_isDeadlock cX5_isDeadlock 2 (some .boolean) 5 1 := ⟨(tw2 (i := 183) rfl), (twp (n := 12) (List.mem_append_left _ (List.mem_of_getElem? (i := 10) rfl))), (tw1 (i := 7) rfl), (tw2 (i := 184) rfl), ⟨_, _, rfl⟩, rfl, by decide, by decide, by decide +kernel⟩
set_option maxHeartbeats 4000000 in
set_option maxRecDepth 20000 in
theorem a_X5_isDeadlock {l : Launch} {D : va_G} {ad : Nat → Nat → Nat} {cA : Nat → ClassId} (hI : zInj ad) {ρ : Type} (X : ρ) : zAns l D ad cA yX5_isDeadlock cX5_isDeadlock 2 (some .boolean) 3 67 X (fun as => ∃ i as', as = zr 5 i :: as') (cI g_X5_isDeadlock) := by
  intro as w Kf hv h
  obtain ⟨q, h1, h2⟩ := oC_inv h
  unfold g_X5_isDeadlock at h1
  obtain ⟨tk0, k0, r, rfl, h1_1⟩ := pR_inv h1
  obtain ⟨bk0, h1_1z⟩ := zif_inv h1_1
  cases Nat.eq_of_beq_eq_true bk0
  obtain ⟨x1, r, rfl, h1_2⟩ := pI_inv h1_1z
  obtain ⟨rfl, h3⟩ := pE_inv h1_2
  exact ⟨_, _, ⟨_, _, rfl⟩, h2, trivial, zmeth (cM := cm_X5_isDeadlock _) (bl := bl_X5_isDeadlock) (ret := rZ) hI (by decide) fl_X5 ll_X5 (lf_X5_isDeadlock _) bk_X5_isDeadlock (Nat.le_of_ble_eq_true rfl) hv (fun hF => (zml_cons (zcv hF ⟨Nat.le_refl _, Nat.le_refl _⟩ rfl (tw2 (i := 173) rfl) k_X5_isEnd ⟨by decide, by decide⟩ (a_X5_isEnd hI _)) (zml_cons (zcv hF ⟨Nat.le_refl _, Nat.le_refl _⟩ rfl (tw2 (i := 185) rfl) k_X5_unfinishedThreads ⟨by decide, by decide⟩ (a_X5_unfinishedThreads hI _)) zml_nil))) (fun hF hr hk => zrt_Z hF hr hk) h3⟩
def bl_X5_canRun : ZBl := [(0, none, [(.iconst 0, 1, 0, []), (.istore_n 2, 1, 0, []), (.iconst 0, 1, 0, []), (.istore_n 3, 1, 0, [])]), (4, some [true, true, true, true], [(.iload_n 3, 1, 0, []), (.aload_n 1, 1, 0, []), (.invokevirtual 121, 3, 0, []), (.if_icmp .ge 38, 3, 47, [])]), (12, none, [(.aload_n 1, 1, 0, []), (.iload_n 3, 1, 0, []), (.invokevirtual 125, 3, 0, []), (.aload_n 0, 1, 0, []), (.getfield 22, 3, 0, []), (.iload_n 2, 1, 0, []), (.iaload, 1, 0, []), (.invokestatic 87, 3, 0, []), (.ifCond .ne 5, 3, 31, [])]), (29, none, [(.iconst 0, 1, 0, []), (.ireturn, 1, 0, [])]), (31, none, [(.iload_n 2, 1, 0, []), (.aload_n 1, 1, 0, []), (.iload_n 3, 1, 0, []), (.invokevirtual 125, 3, 0, []), (.invokestatic 91, 3, 0, []), (.istore_n 2, 1, 0, []), (.iinc 3 1, 3, 0, []), (.goto (-40), 3, 4, [])]), (47, none, [(.iconst 1, 1, 0, []), (.ireturn, 1, 0, [])])]
set_option maxRecDepth 20000 in
theorem bk_X5_canRun : zdb cX5_canRun 4 bl_X5_canRun = true := by decide +kernel
noncomputable def cm_X5_canRun (ρ : Type) : List (Nat × Nat × ZCall ρ) := [(242, 1, cI g_X3_length), (250, 2, cI g_X3_threadAt), (175, 2, cI g_X7_isIn), (183, 2, cI g_X7_standAfter)]
theorem lf_X5_canRun (ρ : Type) : LfM (cm_X5_canRun ρ) := lfm_of (lfm_cons (lfc_I g_X3_length) (lfm_cons (lfc_I g_X3_threadAt) (lfm_cons (lfc_I g_X7_isIn) (lfm_cons (lfc_I g_X7_standAfter) lfm_n))))
noncomputable def x_X5_canRun : ZJ (Int32 × Wd) := zev cF_X5 cL_X5 bl_X5_canRun (cm_X5_canRun (Int32 × Wd)) rZ
noncomputable def f_X5_canRun (k0 : Nat) (k1 : Nat) (w : Wd) : Option (Int32 × Wd) := x_X5_canRun 0 [] [some (zr 5 k0), some (zr 3 k1), none, none] w
noncomputable def g_X5_canRun (r : List ZV) (w : Wd) : Option (Int32 × Wd) := pR r fun tk0 k0 r => zif (Nat.beq tk0 5) (pR r fun tk1 k1 r => zif (Nat.beq tk1 3) (pE r (f_X5_canRun k0 k1 w)))
set_option maxRecDepth 20000 in
theorem e_X5_canRun (k0 : Nat) (k1 : Nat) (w : Wd) : f_X5_canRun k0 k1 w = (x_X5_canRun 4 [] [some (zr 5 k0), some (zr 3 k1), some (zi (Int32.ofInt 0)), some (zi (Int32.ofInt 0))] w) := (zev_eq (lf_X5_canRun _) _ _ _ _).trans rfl
set_option maxRecDepth 20000 in
theorem e_X5_canRun_4 (k0 : Nat) (k1 : Nat) (x2 : Int32) (x3 : Int32) (w : Wd) : x_X5_canRun 4 [] [some (zr 5 k0), some (zr 3 k1), some (zi x2), some (zi x3)] w = (oC (f_X3_length k1 w) fun q1 => (if q1.1 ≤ x3 then (zb (Int32.ofInt 1) (some ((Int32.ofInt 1), q1.2))) else (oC (f_X3_threadAt k1 x3 q1.2) fun q2 => (chk x2 4096 (oC (f_X7_isIn q2.1 (q2.2.1 14 1 x2.toNatClampNeg) q2.2) fun q3 => (if q3.1 = 0 then (zb (Int32.ofInt 0) (some ((Int32.ofInt 0), q3.2))) else (oC (f_X3_threadAt k1 x3 q3.2) fun q4 => (oC (f_X7_standAfter x2 q4.1 q4.2) fun q5 => (x_X5_canRun 4 [] [some (zr 5 k0), some (zr 3 k1), some (zi q5.1), some (zi (x3 + (Int32.ofInt 1)))] q5.2))))))))) := (zev_eq (lf_X5_canRun _) _ _ _ _).trans rfl
theorem k_X5_canRun : zLkV yX5_canRun cX5_canRun 4 (some .boolean) 5 1 := ⟨(tw3 (i := 11) rfl), (tw3 (i := 12) rfl), (tw1 (i := 7) rfl), (tw3 (i := 13) rfl), ⟨_, _, rfl⟩, rfl, by decide, by decide, by decide +kernel⟩
set_option maxHeartbeats 4000000 in
set_option maxRecDepth 20000 in
theorem a_X5_canRun {l : Launch} {D : va_G} {ad : Nat → Nat → Nat} {cA : Nat → ClassId} (hI : zInj ad) {ρ : Type} (X : ρ) : zAns l D ad cA yX5_canRun cX5_canRun 4 (some .boolean) 1 21 X (fun as => ∃ i as', as = zr 5 i :: as') (cI g_X5_canRun) := by
  intro as w Kf hv h
  obtain ⟨q, h1, h2⟩ := oC_inv h
  unfold g_X5_canRun at h1
  obtain ⟨tk0, k0, r, rfl, h1_1⟩ := pR_inv h1
  obtain ⟨bk0, h1_1z⟩ := zif_inv h1_1
  cases Nat.eq_of_beq_eq_true bk0
  obtain ⟨tk1, k1, r, rfl, h1_2⟩ := pR_inv h1_1z
  obtain ⟨bk1, h1_2z⟩ := zif_inv h1_2
  cases Nat.eq_of_beq_eq_true bk1
  obtain ⟨rfl, h3⟩ := pE_inv h1_2z
  exact ⟨_, _, ⟨_, _, rfl⟩, h2, trivial, zmeth (cM := cm_X5_canRun _) (bl := bl_X5_canRun) (ret := rZ) hI (by decide) fl_X5 ll_X5 (lf_X5_canRun _) bk_X5_canRun (Nat.le_of_ble_eq_true rfl) hv (fun hF => (zml_cons (zcv hF ⟨Nat.le_refl _, Nat.le_refl _⟩ rfl (tw3 (i := 14) rfl) k_X3_length ⟨by decide, by decide⟩ (a_X3_length hI _)) (zml_cons (zcv hF ⟨Nat.le_refl _, Nat.le_refl _⟩ rfl (tw3 (i := 15) rfl) k_X3_threadAt ⟨by decide, by decide⟩ (a_X3_threadAt hI _)) (zml_cons (zcn hF ⟨Nat.le_refl _, Nat.le_refl _⟩ rfl (tw2 (i := 160) rfl) k_X7_isIn ⟨by decide, by decide⟩ (a_X7_isIn hI _)) (zml_cons (zcn hF ⟨Nat.le_refl _, Nat.le_refl _⟩ rfl (tw2 (i := 162) rfl) k_X7_standAfter ⟨by decide, by decide⟩ (a_X7_standAfter hI _)) zml_nil))))) (fun hF hr hk => zrt_Z hF hr hk) h3⟩
def bl_X5_reachableStands : ZBl := [(0, none, [(.iconst 0, 1, 0, []), (.istore_n 1, 1, 0, []), (.iconst 0, 1, 0, []), (.istore_n 2, 1, 0, [])]), (4, some [true, true, true], [(.iload_n 2, 1, 0, []), (.sipush 4096, 3, 0, []), (.if_icmp .ge 20, 3, 28, [])]), (11, none, [(.aload_n 0, 1, 0, []), (.iload_n 2, 1, 0, []), (.invokevirtual 71, 3, 0, []), (.ifCond .eq 6, 3, 22, [])]), (19, none, [(.iinc 1 1, 3, 0, [])]), (22, none, [(.iinc 2 1, 3, 0, []), (.goto (-21), 3, 4, [])]), (28, none, [(.iload_n 1, 1, 0, []), (.ireturn, 1, 0, [])])]
set_option maxRecDepth 20000 in
theorem bk_X5_reachableStands : zdb cX5_reachableStands 3 bl_X5_reachableStands = true := by decide +kernel
noncomputable def cm_X5_reachableStands (ρ : Type) : List (Nat × Nat × ZCall ρ) := [(142, 2, cI g_X5_isReachable)]
theorem lf_X5_reachableStands (ρ : Type) : LfM (cm_X5_reachableStands ρ) := lfm_of (lfm_cons (lfc_I g_X5_isReachable) lfm_n)
noncomputable def x_X5_reachableStands : ZJ (Int32 × Wd) := zev cF_X5 cL_X5 bl_X5_reachableStands (cm_X5_reachableStands (Int32 × Wd)) rI
noncomputable def f_X5_reachableStands (k0 : Nat) (w : Wd) : Option (Int32 × Wd) := x_X5_reachableStands 0 [] [some (zr 5 k0), none, none] w
noncomputable def g_X5_reachableStands (r : List ZV) (w : Wd) : Option (Int32 × Wd) := pR r fun tk0 k0 r => zif (Nat.beq tk0 5) (pE r (f_X5_reachableStands k0 w))
set_option maxRecDepth 20000 in
theorem e_X5_reachableStands (k0 : Nat) (w : Wd) : f_X5_reachableStands k0 w = (x_X5_reachableStands 4 [] [some (zr 5 k0), some (zi (Int32.ofInt 0)), some (zi (Int32.ofInt 0))] w) := (zev_eq (lf_X5_reachableStands _) _ _ _ _).trans rfl
set_option maxRecDepth 20000 in
theorem e_X5_reachableStands_4 (k0 : Nat) (x1 : Int32) (x2 : Int32) (w : Wd) : x_X5_reachableStands 4 [] [some (zr 5 k0), some (zi x1), some (zi x2)] w = (if (Int32.ofInt 4096) ≤ x2 then (some (x1, w)) else (oC (f_X5_isReachable k0 x2 w) fun q1 => (if q1.1 = 0 then (x_X5_reachableStands 4 [] [some (zr 5 k0), some (zi x1), some (zi (x2 + (Int32.ofInt 1)))] q1.2) else (x_X5_reachableStands 4 [] [some (zr 5 k0), some (zi (x1 + (Int32.ofInt 1))), some (zi (x2 + (Int32.ofInt 1)))] q1.2)))) := (zev_eq (lf_X5_reachableStands _) _ _ _ _).trans rfl
theorem k_X5_reachableStands : zLkV yX5_reachableStands cX5_reachableStands 3 (some .int) 5 0 := ⟨(tw2 (i := 166) rfl), (tw2 (i := 167) rfl), (tw1 (i := 7) rfl), (tw2 (i := 168) rfl), ⟨_, _, rfl⟩, rfl, by decide, by decide, by decide +kernel⟩
set_option maxHeartbeats 4000000 in
set_option maxRecDepth 20000 in
theorem a_X5_reachableStands {l : Launch} {D : va_G} {ad : Nat → Nat → Nat} {cA : Nat → ClassId} (hI : zInj ad) {ρ : Type} (X : ρ) : zAns l D ad cA yX5_reachableStands cX5_reachableStands 3 (some .int) 1 21 X (fun as => ∃ i as', as = zr 5 i :: as') (cI g_X5_reachableStands) := by
  intro as w Kf hv h
  obtain ⟨q, h1, h2⟩ := oC_inv h
  unfold g_X5_reachableStands at h1
  obtain ⟨tk0, k0, r, rfl, h1_1⟩ := pR_inv h1
  obtain ⟨bk0, h1_1z⟩ := zif_inv h1_1
  cases Nat.eq_of_beq_eq_true bk0
  obtain ⟨rfl, h3⟩ := pE_inv h1_1z
  exact ⟨_, _, ⟨_, _, rfl⟩, h2, trivial, zmeth (cM := cm_X5_reachableStands _) (bl := bl_X5_reachableStands) (ret := rI) hI (by decide) fl_X5 ll_X5 (lf_X5_reachableStands _) bk_X5_reachableStands (Nat.le_of_ble_eq_true rfl) hv (fun hF => (zml_cons (zcv hF ⟨Nat.le_refl _, Nat.le_refl _⟩ rfl (tw2 (i := 134) rfl) k_X5_isReachable ⟨by decide, by decide⟩ (a_X5_isReachable hI _)) zml_nil)) (fun hF hr hk => zrt_I hF hr hk) h3⟩
def bl_X5_ends : ZBl := [(0, none, [(.iconst 0, 1, 0, []), (.istore_n 1, 1, 0, []), (.iconst 0, 1, 0, []), (.istore_n 2, 1, 0, [])]), (4, some [true, true, true], [(.iload_n 2, 1, 0, []), (.sipush 4096, 3, 0, []), (.if_icmp .ge 20, 3, 28, [])]), (11, none, [(.aload_n 0, 1, 0, []), (.iload_n 2, 1, 0, []), (.invokevirtual 115, 3, 0, []), (.ifCond .eq 6, 3, 22, [])]), (19, none, [(.iinc 1 1, 3, 0, [])]), (22, none, [(.iinc 2 1, 3, 0, []), (.goto (-21), 3, 4, [])]), (28, none, [(.iload_n 1, 1, 0, []), (.ireturn, 1, 0, [])])]
set_option maxRecDepth 20000 in
theorem bk_X5_ends : zdb cX5_ends 3 bl_X5_ends = true := by decide +kernel
noncomputable def cm_X5_ends (ρ : Type) : List (Nat × Nat × ZCall ρ) := [(230, 2, cI g_X5_isEnd)]
theorem lf_X5_ends (ρ : Type) : LfM (cm_X5_ends ρ) := lfm_of (lfm_cons (lfc_I g_X5_isEnd) lfm_n)
noncomputable def x_X5_ends : ZJ (Int32 × Wd) := zev cF_X5 cL_X5 bl_X5_ends (cm_X5_ends (Int32 × Wd)) rI
noncomputable def f_X5_ends (k0 : Nat) (w : Wd) : Option (Int32 × Wd) := x_X5_ends 0 [] [some (zr 5 k0), none, none] w
noncomputable def g_X5_ends (r : List ZV) (w : Wd) : Option (Int32 × Wd) := pR r fun tk0 k0 r => zif (Nat.beq tk0 5) (pE r (f_X5_ends k0 w))
set_option maxRecDepth 20000 in
theorem e_X5_ends (k0 : Nat) (w : Wd) : f_X5_ends k0 w = (x_X5_ends 4 [] [some (zr 5 k0), some (zi (Int32.ofInt 0)), some (zi (Int32.ofInt 0))] w) := (zev_eq (lf_X5_ends _) _ _ _ _).trans rfl
set_option maxRecDepth 20000 in
theorem e_X5_ends_4 (k0 : Nat) (x1 : Int32) (x2 : Int32) (w : Wd) : x_X5_ends 4 [] [some (zr 5 k0), some (zi x1), some (zi x2)] w = (if (Int32.ofInt 4096) ≤ x2 then (some (x1, w)) else (oC (f_X5_isEnd k0 x2 w) fun q1 => (if q1.1 = 0 then (x_X5_ends 4 [] [some (zr 5 k0), some (zi x1), some (zi (x2 + (Int32.ofInt 1)))] q1.2) else (x_X5_ends 4 [] [some (zr 5 k0), some (zi (x1 + (Int32.ofInt 1))), some (zi (x2 + (Int32.ofInt 1)))] q1.2)))) := (zev_eq (lf_X5_ends _) _ _ _ _).trans rfl
theorem k_X5_ends : zLkV yX5_ends cX5_ends 3 (some .int) 5 0 := ⟨(tw2 (i := 170) rfl), (tw2 (i := 171) rfl), (tw1 (i := 7) rfl), (tw2 (i := 172) rfl), ⟨_, _, rfl⟩, rfl, by decide, by decide, by decide +kernel⟩
set_option maxHeartbeats 4000000 in
set_option maxRecDepth 20000 in
theorem a_X5_ends {l : Launch} {D : va_G} {ad : Nat → Nat → Nat} {cA : Nat → ClassId} (hI : zInj ad) {ρ : Type} (X : ρ) : zAns l D ad cA yX5_ends cX5_ends 3 (some .int) 2 42 X (fun as => ∃ i as', as = zr 5 i :: as') (cI g_X5_ends) := by
  intro as w Kf hv h
  obtain ⟨q, h1, h2⟩ := oC_inv h
  unfold g_X5_ends at h1
  obtain ⟨tk0, k0, r, rfl, h1_1⟩ := pR_inv h1
  obtain ⟨bk0, h1_1z⟩ := zif_inv h1_1
  cases Nat.eq_of_beq_eq_true bk0
  obtain ⟨rfl, h3⟩ := pE_inv h1_1z
  exact ⟨_, _, ⟨_, _, rfl⟩, h2, trivial, zmeth (cM := cm_X5_ends _) (bl := bl_X5_ends) (ret := rI) hI (by decide) fl_X5 ll_X5 (lf_X5_ends _) bk_X5_ends (Nat.le_of_ble_eq_true rfl) hv (fun hF => (zml_cons (zcv hF ⟨Nat.le_refl _, Nat.le_refl _⟩ rfl (tw2 (i := 173) rfl) k_X5_isEnd ⟨by decide, by decide⟩ (a_X5_isEnd hI _)) zml_nil)) (fun hF hr hk => zrt_I hF hr hk) h3⟩
def bl_X5_deadlocks : ZBl := [(0, none, [(.iconst 0, 1, 0, []), (.istore_n 1, 1, 0, []), (.iconst 0, 1, 0, []), (.istore_n 2, 1, 0, [])]), (4, some [true, true, true], [(.iload_n 2, 1, 0, []), (.sipush 4096, 3, 0, []), (.if_icmp .ge 20, 3, 28, [])]), (11, none, [(.aload_n 0, 1, 0, []), (.iload_n 2, 1, 0, []), (.invokevirtual 128, 3, 0, []), (.ifCond .eq 6, 3, 22, [])]), (19, none, [(.iinc 1 1, 3, 0, [])]), (22, none, [(.iinc 2 1, 3, 0, []), (.goto (-21), 3, 4, [])]), (28, none, [(.iload_n 1, 1, 0, []), (.ireturn, 1, 0, [])])]
set_option maxRecDepth 20000 in
theorem bk_X5_deadlocks : zdb cX5_deadlocks 3 bl_X5_deadlocks = true := by decide +kernel
noncomputable def cm_X5_deadlocks (ρ : Type) : List (Nat × Nat × ZCall ρ) := [(256, 2, cI g_X5_isDeadlock)]
theorem lf_X5_deadlocks (ρ : Type) : LfM (cm_X5_deadlocks ρ) := lfm_of (lfm_cons (lfc_I g_X5_isDeadlock) lfm_n)
noncomputable def x_X5_deadlocks : ZJ (Int32 × Wd) := zev cF_X5 cL_X5 bl_X5_deadlocks (cm_X5_deadlocks (Int32 × Wd)) rI
noncomputable def f_X5_deadlocks (k0 : Nat) (w : Wd) : Option (Int32 × Wd) := x_X5_deadlocks 0 [] [some (zr 5 k0), none, none] w
noncomputable def g_X5_deadlocks (r : List ZV) (w : Wd) : Option (Int32 × Wd) := pR r fun tk0 k0 r => zif (Nat.beq tk0 5) (pE r (f_X5_deadlocks k0 w))
set_option maxRecDepth 20000 in
theorem e_X5_deadlocks (k0 : Nat) (w : Wd) : f_X5_deadlocks k0 w = (x_X5_deadlocks 4 [] [some (zr 5 k0), some (zi (Int32.ofInt 0)), some (zi (Int32.ofInt 0))] w) := (zev_eq (lf_X5_deadlocks _) _ _ _ _).trans rfl
set_option maxRecDepth 20000 in
theorem e_X5_deadlocks_4 (k0 : Nat) (x1 : Int32) (x2 : Int32) (w : Wd) : x_X5_deadlocks 4 [] [some (zr 5 k0), some (zi x1), some (zi x2)] w = (if (Int32.ofInt 4096) ≤ x2 then (some (x1, w)) else (oC (f_X5_isDeadlock k0 x2 w) fun q1 => (if q1.1 = 0 then (x_X5_deadlocks 4 [] [some (zr 5 k0), some (zi x1), some (zi (x2 + (Int32.ofInt 1)))] q1.2) else (x_X5_deadlocks 4 [] [some (zr 5 k0), some (zi (x1 + (Int32.ofInt 1))), some (zi (x2 + (Int32.ofInt 1)))] q1.2)))) := (zev_eq (lf_X5_deadlocks _) _ _ _ _).trans rfl
theorem k_X5_deadlocks : zLkV yX5_deadlocks cX5_deadlocks 3 (some .int) 5 0 := ⟨(tw2 (i := 178) rfl), (tw2 (i := 179) rfl), (tw1 (i := 7) rfl), (tw2 (i := 180) rfl), ⟨_, _, rfl⟩, rfl, by decide, by decide, by decide +kernel⟩
set_option maxHeartbeats 4000000 in
set_option maxRecDepth 20000 in
theorem a_X5_deadlocks {l : Launch} {D : va_G} {ad : Nat → Nat → Nat} {cA : Nat → ClassId} (hI : zInj ad) {ρ : Type} (X : ρ) : zAns l D ad cA yX5_deadlocks cX5_deadlocks 3 (some .int) 4 88 X (fun as => ∃ i as', as = zr 5 i :: as') (cI g_X5_deadlocks) := by
  intro as w Kf hv h
  obtain ⟨q, h1, h2⟩ := oC_inv h
  unfold g_X5_deadlocks at h1
  obtain ⟨tk0, k0, r, rfl, h1_1⟩ := pR_inv h1
  obtain ⟨bk0, h1_1z⟩ := zif_inv h1_1
  cases Nat.eq_of_beq_eq_true bk0
  obtain ⟨rfl, h3⟩ := pE_inv h1_1z
  exact ⟨_, _, ⟨_, _, rfl⟩, h2, trivial, zmeth (cM := cm_X5_deadlocks _) (bl := bl_X5_deadlocks) (ret := rI) hI (by decide) fl_X5 ll_X5 (lf_X5_deadlocks _) bk_X5_deadlocks (Nat.le_of_ble_eq_true rfl) hv (fun hF => (zml_cons (zcv hF ⟨Nat.le_refl _, Nat.le_refl _⟩ rfl (tw2 (i := 181) rfl) k_X5_isDeadlock ⟨by decide, by decide⟩ (a_X5_isDeadlock hI _)) zml_nil)) (fun hF hr hk => zrt_I hF hr hk) h3⟩
def bl_X5_deadlockAt : ZBl := [(0, none, [(.iconst 0, 1, 0, []), (.istore_n 2, 1, 0, []), (.iconst 0, 1, 0, []), (.istore_n 3, 1, 0, [])]), (4, some [true, true, true, true], [(.iload_n 3, 1, 0, []), (.sipush 4096, 3, 0, []), (.if_icmp .ge 27, 3, 35, [])]), (11, none, [(.aload_n 0, 1, 0, []), (.iload_n 3, 1, 0, []), (.invokevirtual 128, 3, 0, []), (.ifCond .eq 13, 3, 29, [])]), (19, none, [(.iload_n 2, 1, 0, []), (.iload_n 1, 1, 0, []), (.if_icmp .ne 5, 3, 26, [])]), (24, none, [(.iload_n 3, 1, 0, []), (.ireturn, 1, 0, [])]), (26, none, [(.iinc 2 1, 3, 0, [])]), (29, none, [(.iinc 3 1, 3, 0, []), (.goto (-28), 3, 4, [])]), (35, none, [(.iconst (-1), 1, 0, []), (.ireturn, 1, 0, [])])]
set_option maxRecDepth 20000 in
theorem bk_X5_deadlockAt : zdb cX5_deadlockAt 4 bl_X5_deadlockAt = true := by decide +kernel
noncomputable def cm_X5_deadlockAt (ρ : Type) : List (Nat × Nat × ZCall ρ) := [(256, 2, cI g_X5_isDeadlock)]
theorem lf_X5_deadlockAt (ρ : Type) : LfM (cm_X5_deadlockAt ρ) := lfm_of (lfm_cons (lfc_I g_X5_isDeadlock) lfm_n)
noncomputable def x_X5_deadlockAt : ZJ (Int32 × Wd) := zev cF_X5 cL_X5 bl_X5_deadlockAt (cm_X5_deadlockAt (Int32 × Wd)) rI
noncomputable def f_X5_deadlockAt (k0 : Nat) (x1 : Int32) (w : Wd) : Option (Int32 × Wd) := x_X5_deadlockAt 0 [] [some (zr 5 k0), some (zi x1), none, none] w
noncomputable def g_X5_deadlockAt (r : List ZV) (w : Wd) : Option (Int32 × Wd) := pR r fun tk0 k0 r => zif (Nat.beq tk0 5) (pI r fun x1 r => pE r (f_X5_deadlockAt k0 x1 w))
set_option maxRecDepth 20000 in
theorem e_X5_deadlockAt (k0 : Nat) (x1 : Int32) (w : Wd) : f_X5_deadlockAt k0 x1 w = (x_X5_deadlockAt 4 [] [some (zr 5 k0), some (zi x1), some (zi (Int32.ofInt 0)), some (zi (Int32.ofInt 0))] w) := (zev_eq (lf_X5_deadlockAt _) _ _ _ _).trans rfl
set_option maxRecDepth 20000 in
theorem e_X5_deadlockAt_4 (k0 : Nat) (x1 : Int32) (x2 : Int32) (x3 : Int32) (w : Wd) : x_X5_deadlockAt 4 [] [some (zr 5 k0), some (zi x1), some (zi x2), some (zi x3)] w = (if (Int32.ofInt 4096) ≤ x3 then (some ((Int32.ofInt (-1)), w)) else (oC (f_X5_isDeadlock k0 x3 w) fun q1 => (if q1.1 = 0 then (x_X5_deadlockAt 4 [] [some (zr 5 k0), some (zi x1), some (zi x2), some (zi (x3 + (Int32.ofInt 1)))] q1.2) else (if x2 = x1 then (some (x3, q1.2)) else (x_X5_deadlockAt 4 [] [some (zr 5 k0), some (zi x1), some (zi (x2 + (Int32.ofInt 1))), some (zi (x3 + (Int32.ofInt 1)))] q1.2))))) := (zev_eq (lf_X5_deadlockAt _) _ _ _ _).trans rfl
theorem k_X5_deadlockAt : zLkV yX5_deadlockAt cX5_deadlockAt 4 (some .int) 5 1 := ⟨(tw3 (i := 146) rfl), (tw3 (i := 147) rfl), (tw1 (i := 7) rfl), (tw3 (i := 148) rfl), ⟨_, _, rfl⟩, rfl, by decide, by decide, by decide +kernel⟩
set_option maxHeartbeats 4000000 in
set_option maxRecDepth 20000 in
theorem a_X5_deadlockAt {l : Launch} {D : va_G} {ad : Nat → Nat → Nat} {cA : Nat → ClassId} (hI : zInj ad) {ρ : Type} (X : ρ) : zAns l D ad cA yX5_deadlockAt cX5_deadlockAt 4 (some .int) 4 88 X (fun as => ∃ i as', as = zr 5 i :: as') (cI g_X5_deadlockAt) := by
  intro as w Kf hv h
  obtain ⟨q, h1, h2⟩ := oC_inv h
  unfold g_X5_deadlockAt at h1
  obtain ⟨tk0, k0, r, rfl, h1_1⟩ := pR_inv h1
  obtain ⟨bk0, h1_1z⟩ := zif_inv h1_1
  cases Nat.eq_of_beq_eq_true bk0
  obtain ⟨x1, r, rfl, h1_2⟩ := pI_inv h1_1z
  obtain ⟨rfl, h3⟩ := pE_inv h1_2
  exact ⟨_, _, ⟨_, _, rfl⟩, h2, trivial, zmeth (cM := cm_X5_deadlockAt _) (bl := bl_X5_deadlockAt) (ret := rI) hI (by decide) fl_X5 ll_X5 (lf_X5_deadlockAt _) bk_X5_deadlockAt (Nat.le_of_ble_eq_true rfl) hv (fun hF => (zml_cons (zcv hF ⟨Nat.le_refl _, Nat.le_refl _⟩ rfl (tw2 (i := 181) rfl) k_X5_isDeadlock ⟨by decide, by decide⟩ (a_X5_isDeadlock hI _)) zml_nil)) (fun hF hr hk => zrt_I hF hr hk) h3⟩
def bl_X5_wholeRuns : ZBl := [(0, none, [(.lconst 0, 1, 0, []), (.lstore_n 1, 1, 0, []), (.iconst 0, 1, 0, []), (.istore_n 3, 1, 0, [])]), (4, some [true, true, false, true], [(.iload_n 3, 1, 0, []), (.sipush 4096, 3, 0, []), (.if_icmp .ge 26, 3, 34, [])]), (11, none, [(.aload_n 0, 1, 0, []), (.iload_n 3, 1, 0, []), (.invokevirtual 115, 3, 0, []), (.ifCond .eq 12, 3, 28, [])]), (19, none, [(.lload_n 1, 1, 0, []), (.aload_n 0, 1, 0, []), (.getfield 25, 3, 0, []), (.iload_n 3, 1, 0, []), (.laload, 1, 0, []), (.ladd, 1, 0, []), (.lstore_n 1, 1, 0, [])]), (28, none, [(.iinc 3 1, 3, 0, []), (.goto (-27), 3, 4, [])]), (34, none, [(.lload_n 1, 1, 0, []), (.lreturn, 1, 0, [])])]
set_option maxRecDepth 20000 in
theorem bk_X5_wholeRuns : zdb cX5_wholeRuns 4 bl_X5_wholeRuns = true := by decide +kernel
noncomputable def cm_X5_wholeRuns (ρ : Type) : List (Nat × Nat × ZCall ρ) := [(230, 2, cI g_X5_isEnd)]
theorem lf_X5_wholeRuns (ρ : Type) : LfM (cm_X5_wholeRuns ρ) := lfm_of (lfm_cons (lfc_I g_X5_isEnd) lfm_n)
noncomputable def x_X5_wholeRuns : ZJ (Int64 × Wd) := zev cF_X5 cL_X5 bl_X5_wholeRuns (cm_X5_wholeRuns (Int64 × Wd)) rJ
noncomputable def f_X5_wholeRuns (k0 : Nat) (w : Wd) : Option (Int64 × Wd) := x_X5_wholeRuns 0 [] [some (zr 5 k0), none, none, none] w
noncomputable def g_X5_wholeRuns (r : List ZV) (w : Wd) : Option (Int64 × Wd) := pR r fun tk0 k0 r => zif (Nat.beq tk0 5) (pE r (f_X5_wholeRuns k0 w))
set_option maxRecDepth 20000 in
theorem e_X5_wholeRuns (k0 : Nat) (w : Wd) : f_X5_wholeRuns k0 w = (x_X5_wholeRuns 4 [] [some (zr 5 k0), some (zl (Int64.ofInt 0)), none, some (zi (Int32.ofInt 0))] w) := (zev_eq (lf_X5_wholeRuns _) _ _ _ _).trans rfl
set_option maxRecDepth 20000 in
theorem e_X5_wholeRuns_4 (k0 : Nat) (y1 : Int64) (x3 : Int32) (w : Wd) : x_X5_wholeRuns 4 [] [some (zr 5 k0), some (zl y1), none, some (zi x3)] w = (if (Int32.ofInt 4096) ≤ x3 then (some (y1, w)) else (oC (f_X5_isEnd k0 x3 w) fun q1 => (if q1.1 = 0 then (x_X5_wholeRuns 4 [] [some (zr 5 k0), some (zl y1), none, some (zi (x3 + (Int32.ofInt 1)))] q1.2) else (chk x3 4096 (x_X5_wholeRuns 4 [] [some (zr 5 k0), some (zl (y1 + (q1.2.2 17 1 x3.toNatClampNeg))), none, some (zi (x3 + (Int32.ofInt 1)))] q1.2))))) := (zev_eq (lf_X5_wholeRuns _) _ _ _ _).trans rfl
theorem k_X5_wholeRuns : zLkV yX5_wholeRuns cX5_wholeRuns 4 (some .long) 5 0 := ⟨(tw2 (i := 194) rfl), (tw2 (i := 195) rfl), (tw1 (i := 7) rfl), (tw2 (i := 196) rfl), ⟨_, _, rfl⟩, rfl, by decide, by decide, by decide +kernel⟩
set_option maxHeartbeats 4000000 in
set_option maxRecDepth 20000 in
theorem a_X5_wholeRuns {l : Launch} {D : va_G} {ad : Nat → Nat → Nat} {cA : Nat → ClassId} (hI : zInj ad) {ρ : Type} (X : ρ) : zAns l D ad cA yX5_wholeRuns cX5_wholeRuns 4 (some .long) 2 42 X (fun as => ∃ i as', as = zr 5 i :: as') (cJ g_X5_wholeRuns) := by
  intro as w Kf hv h
  obtain ⟨q, h1, h2⟩ := oC_inv h
  unfold g_X5_wholeRuns at h1
  obtain ⟨tk0, k0, r, rfl, h1_1⟩ := pR_inv h1
  obtain ⟨bk0, h1_1z⟩ := zif_inv h1_1
  cases Nat.eq_of_beq_eq_true bk0
  obtain ⟨rfl, h3⟩ := pE_inv h1_1z
  exact ⟨_, _, ⟨_, _, rfl⟩, h2, trivial, zmeth (cM := cm_X5_wholeRuns _) (bl := bl_X5_wholeRuns) (ret := rJ) hI (by decide) fl_X5 ll_X5 (lf_X5_wholeRuns _) bk_X5_wholeRuns (Nat.le_of_ble_eq_true rfl) hv (fun hF => (zml_cons (zcv hF ⟨Nat.le_refl _, Nat.le_refl _⟩ rfl (tw2 (i := 173) rfl) k_X5_isEnd ⟨by decide, by decide⟩ (a_X5_isEnd hI _)) zml_nil)) (fun hF hr hk => zrt_J hF hr hk) h3⟩
