def bl_X5_wholeRunsToDeadlocks : ZBl := [(0, none, [(.lconst 0, 1, 0, []), (.lstore_n 1, 1, 0, []), (.iconst 0, 1, 0, []), (.istore_n 3, 1, 0, [])]), (4, some [true, true, false, true], [(.iload_n 3, 1, 0, []), (.sipush 4096, 3, 0, []), (.if_icmp .ge 26, 3, 34, [])]), (11, none, [(.aload_n 0, 1, 0, []), (.iload_n 3, 1, 0, []), (.invokevirtual 128, 3, 0, []), (.ifCond .eq 12, 3, 28, [])]), (19, none, [(.lload_n 1, 1, 0, []), (.aload_n 0, 1, 0, []), (.getfield 25, 3, 0, []), (.iload_n 3, 1, 0, []), (.laload, 1, 0, []), (.ladd, 1, 0, []), (.lstore_n 1, 1, 0, [])]), (28, none, [(.iinc 3 1, 3, 0, []), (.goto (-27), 3, 4, [])]), (34, none, [(.lload_n 1, 1, 0, []), (.lreturn, 1, 0, [])])]
set_option maxRecDepth 20000 in
theorem bk_X5_wholeRunsToDeadlocks : zdb cX5_wholeRunsToDeadlocks 4 bl_X5_wholeRunsToDeadlocks = true := by decide +kernel
noncomputable def cm_X5_wholeRunsToDeadlocks (ρ : Type) : List (Nat × Nat × ZCall ρ) := [(256, 2, cI g_X5_isDeadlock)]
theorem lf_X5_wholeRunsToDeadlocks (ρ : Type) : LfM (cm_X5_wholeRunsToDeadlocks ρ) := lfm_of (lfm_cons (lfc_I g_X5_isDeadlock) lfm_n)
noncomputable def x_X5_wholeRunsToDeadlocks : ZJ (Int64 × Wd) := zev cF_X5 cL_X5 bl_X5_wholeRunsToDeadlocks (cm_X5_wholeRunsToDeadlocks (Int64 × Wd)) rJ
noncomputable def f_X5_wholeRunsToDeadlocks (k0 : Nat) (w : Wd) : Option (Int64 × Wd) := x_X5_wholeRunsToDeadlocks 0 [] [some (zr 5 k0), none, none, none] w
noncomputable def g_X5_wholeRunsToDeadlocks (r : List ZV) (w : Wd) : Option (Int64 × Wd) := pR r fun tk0 k0 r => zif (Nat.beq tk0 5) (pE r (f_X5_wholeRunsToDeadlocks k0 w))
set_option maxRecDepth 20000 in
theorem e_X5_wholeRunsToDeadlocks (k0 : Nat) (w : Wd) : f_X5_wholeRunsToDeadlocks k0 w = (x_X5_wholeRunsToDeadlocks 4 [] [some (zr 5 k0), some (zl (Int64.ofInt 0)), none, some (zi (Int32.ofInt 0))] w) := (zev_eq (lf_X5_wholeRunsToDeadlocks _) _ _ _ _).trans rfl
set_option maxRecDepth 20000 in
theorem e_X5_wholeRunsToDeadlocks_4 (k0 : Nat) (y1 : Int64) (x3 : Int32) (w : Wd) : x_X5_wholeRunsToDeadlocks 4 [] [some (zr 5 k0), some (zl y1), none, some (zi x3)] w = (if (Int32.ofInt 4096) ≤ x3 then (some (y1, w)) else (oC (f_X5_isDeadlock k0 x3 w) fun q1 => (if q1.1 = 0 then (x_X5_wholeRunsToDeadlocks 4 [] [some (zr 5 k0), some (zl y1), none, some (zi (x3 + (Int32.ofInt 1)))] q1.2) else (chk x3 4096 (x_X5_wholeRunsToDeadlocks 4 [] [some (zr 5 k0), some (zl (y1 + (q1.2.2 17 1 x3.toNatClampNeg))), none, some (zi (x3 + (Int32.ofInt 1)))] q1.2))))) := (zev_eq (lf_X5_wholeRunsToDeadlocks _) _ _ _ _).trans rfl
theorem k_X5_wholeRunsToDeadlocks : zLkV yX5_wholeRunsToDeadlocks cX5_wholeRunsToDeadlocks 4 (some .long) 5 0 := ⟨(tw2 (i := 198) rfl), (tw2 (i := 199) rfl), (tw1 (i := 7) rfl), (tw2 (i := 200) rfl), ⟨_, _, rfl⟩, rfl, by decide, by decide, by decide +kernel⟩
set_option maxHeartbeats 4000000 in
set_option maxRecDepth 20000 in
theorem a_X5_wholeRunsToDeadlocks {l : Launch} {D : va_G} {ad : Nat → Nat → Nat} {cA : Nat → ClassId} (hI : zInj ad) {ρ : Type} (X : ρ) : zAns l D ad cA yX5_wholeRunsToDeadlocks cX5_wholeRunsToDeadlocks 4 (some .long) 4 88 X (fun as => ∃ i as', as = zr 5 i :: as') (cJ g_X5_wholeRunsToDeadlocks) := by
  intro as w Kf hv h
  obtain ⟨q, h1, h2⟩ := oC_inv h
  unfold g_X5_wholeRunsToDeadlocks at h1
  obtain ⟨tk0, k0, r, rfl, h1_1⟩ := pR_inv h1
  obtain ⟨bk0, h1_1z⟩ := zif_inv h1_1
  cases Nat.eq_of_beq_eq_true bk0
  obtain ⟨rfl, h3⟩ := pE_inv h1_1z
  exact ⟨_, _, ⟨_, _, rfl⟩, h2, trivial, zmeth (cM := cm_X5_wholeRunsToDeadlocks _) (bl := bl_X5_wholeRunsToDeadlocks) (ret := rJ) hI (by decide) fl_X5 ll_X5 (lf_X5_wholeRunsToDeadlocks _) bk_X5_wholeRunsToDeadlocks (Nat.le_of_ble_eq_true rfl) hv (fun hF => (zml_cons (zcv hF ⟨Nat.le_refl _, Nat.le_refl _⟩ rfl (tw2 (i := 181) rfl) k_X5_isDeadlock ⟨by decide, by decide⟩ (a_X5_isDeadlock hI _)) zml_nil)) (fun hF hr hk => zrt_J hF hr hk) h3⟩
def bl_X5_stillAsleep : ZBl := [(0, none, [(.aload_n 0, 1, 0, []), (.iload_n 1, 1, 0, []), (.iload_n 2, 1, 0, []), (.invokevirtual 97, 3, 0, []), (.istore 4, 2, 0, []), (.iconst 0, 1, 0, []), (.istore 5, 2, 0, []), (.iconst 0, 1, 0, []), (.istore 6, 2, 0, [])]), (14, some [true, true, false, true, true, true, true], [(.iload 6, 2, 0, []), (.iconst 4, 1, 0, []), (.if_icmp .ge 43, 3, 60, [])]), (20, none, [(.iload 6, 2, 0, []), (.iload_n 3, 1, 0, []), (.invokestatic 87, 3, 0, []), (.ifCond .eq 28, 3, 54, [])]), (29, none, [(.aload_n 0, 1, 0, []), (.iload_n 1, 1, 0, []), (.iload 6, 2, 0, []), (.invokevirtual 97, 3, 0, []), (.iload 4, 2, 0, []), (.invokestatic 153, 3, 0, []), (.ifCond .eq 13, 3, 54, [])]), (44, none, [(.iload 5, 2, 0, []), (.iload 6, 2, 0, []), (.invokestatic 106, 3, 0, []), (.ior, 1, 0, []), (.istore 5, 2, 0, [])]), (54, none, [(.iinc 6 1, 3, 0, []), (.goto (-43), 3, 14, [])]), (60, none, [(.iload 5, 2, 0, []), (.ireturn, 1, 0, [])])]
set_option maxRecDepth 20000 in
theorem bk_X5_stillAsleep : zdb cX5_stillAsleep 7 bl_X5_stillAsleep = true := by decide +kernel
noncomputable def cm_X5_stillAsleep (ρ : Type) : List (Nat × Nat × ZCall ρ) := [(194, 3, cI g_X5_nextStep), (175, 2, cI g_X7_isIn), (307, 2, cI g_X7_commute), (213, 1, cI g_X7_setOf)]
theorem lf_X5_stillAsleep (ρ : Type) : LfM (cm_X5_stillAsleep ρ) := lfm_of (lfm_cons (lfc_I g_X5_nextStep) (lfm_cons (lfc_I g_X7_isIn) (lfm_cons (lfc_I g_X7_commute) (lfm_cons (lfc_I g_X7_setOf) lfm_n))))
noncomputable def x_X5_stillAsleep : ZJ (Int32 × Wd) := zev cF_X5 cL_X5 bl_X5_stillAsleep (cm_X5_stillAsleep (Int32 × Wd)) rI
noncomputable def f_X5_stillAsleep (k0 : Nat) (x1 : Int32) (x2 : Int32) (x3 : Int32) (w : Wd) : Option (Int32 × Wd) := x_X5_stillAsleep 0 [] [some (zr 5 k0), some (zi x1), some (zi x2), some (zi x3), none, none, none] w
noncomputable def g_X5_stillAsleep (r : List ZV) (w : Wd) : Option (Int32 × Wd) := pR r fun tk0 k0 r => zif (Nat.beq tk0 5) (pI r fun x1 r => pI r fun x2 r => pI r fun x3 r => pE r (f_X5_stillAsleep k0 x1 x2 x3 w))
set_option maxRecDepth 20000 in
theorem e_X5_stillAsleep (k0 : Nat) (x1 : Int32) (x2 : Int32) (x3 : Int32) (w : Wd) : f_X5_stillAsleep k0 x1 x2 x3 w = (oC (f_X5_nextStep k0 x1 x2 w) fun q1 => (x_X5_stillAsleep 14 [] [some (zr 5 k0), some (zi x1), none, some (zi x3), some (zi q1.1), some (zi (Int32.ofInt 0)), some (zi (Int32.ofInt 0))] q1.2)) := (zev_eq (lf_X5_stillAsleep _) _ _ _ _).trans rfl
set_option maxRecDepth 20000 in
theorem e_X5_stillAsleep_14 (k0 : Nat) (x1 : Int32) (x3 : Int32) (x4 : Int32) (x5 : Int32) (x6 : Int32) (w : Wd) : x_X5_stillAsleep 14 [] [some (zr 5 k0), some (zi x1), none, some (zi x3), some (zi x4), some (zi x5), some (zi x6)] w = (if (Int32.ofInt 4) ≤ x6 then (some (x5, w)) else (oC (f_X7_isIn x6 x3 w) fun q1 => (if q1.1 = 0 then (x_X5_stillAsleep 14 [] [some (zr 5 k0), some (zi x1), none, some (zi x3), some (zi x4), some (zi x5), some (zi (x6 + (Int32.ofInt 1)))] q1.2) else (oC (f_X5_nextStep k0 x1 x6 q1.2) fun q2 => (oC (f_X7_commute q2.1 x4 q2.2) fun q3 => (if q3.1 = 0 then (x_X5_stillAsleep 14 [] [some (zr 5 k0), some (zi x1), none, some (zi x3), some (zi x4), some (zi x5), some (zi (x6 + (Int32.ofInt 1)))] q3.2) else (oC (f_X7_setOf x6 q3.2) fun q4 => (x_X5_stillAsleep 14 [] [some (zr 5 k0), some (zi x1), none, some (zi x3), some (zi x4), some (zi (x5 ||| q4.1)), some (zi (x6 + (Int32.ofInt 1)))] q4.2)))))))) := (zev_eq (lf_X5_stillAsleep _) _ _ _ _).trans rfl
theorem k_X5_stillAsleep : zLkV yX5_stillAsleep cX5_stillAsleep 7 (some .int) 5 3 := ⟨(tw2 (i := 220) rfl), (twp (n := 12) (List.mem_append_left _ (List.mem_of_getElem? (i := 13) rfl))), (tw1 (i := 7) rfl), (tw2 (i := 221) rfl), ⟨_, _, rfl⟩, rfl, by decide, by decide, by decide +kernel⟩
set_option maxHeartbeats 4000000 in
set_option maxRecDepth 20000 in
theorem a_X5_stillAsleep {l : Launch} {D : va_G} {ad : Nat → Nat → Nat} {cA : Nat → ClassId} (hI : zInj ad) {ρ : Type} (X : ρ) : zAns l D ad cA yX5_stillAsleep cX5_stillAsleep 7 (some .int) 2 44 X (fun as => ∃ i as', as = zr 5 i :: as') (cI g_X5_stillAsleep) := by
  intro as w Kf hv h
  obtain ⟨q, h1, h2⟩ := oC_inv h
  unfold g_X5_stillAsleep at h1
  obtain ⟨tk0, k0, r, rfl, h1_1⟩ := pR_inv h1
  obtain ⟨bk0, h1_1z⟩ := zif_inv h1_1
  cases Nat.eq_of_beq_eq_true bk0
  obtain ⟨x1, r, rfl, h1_2⟩ := pI_inv h1_1z
  obtain ⟨x2, r, rfl, h1_3⟩ := pI_inv h1_2
  obtain ⟨x3, r, rfl, h1_4⟩ := pI_inv h1_3
  obtain ⟨rfl, h3⟩ := pE_inv h1_4
  exact ⟨_, _, ⟨_, _, rfl⟩, h2, trivial, zmeth (cM := cm_X5_stillAsleep _) (bl := bl_X5_stillAsleep) (ret := rI) hI (by decide) fl_X5 ll_X5 (lf_X5_stillAsleep _) bk_X5_stillAsleep (Nat.le_of_ble_eq_true rfl) hv (fun hF => (zml_cons (zcv hF ⟨Nat.le_refl _, Nat.le_refl _⟩ rfl (tw2 (i := 153) rfl) k_X5_nextStep ⟨by decide, by decide⟩ (a_X5_nextStep hI _)) (zml_cons (zcn hF ⟨Nat.le_refl _, Nat.le_refl _⟩ rfl (tw2 (i := 160) rfl) k_X7_isIn ⟨by decide, by decide⟩ (a_X7_isIn hI _)) (zml_cons (zcn hF ⟨Nat.le_refl _, Nat.le_refl _⟩ rfl (tw2 (i := 222) rfl) k_X7_commute ⟨by decide, by decide⟩ (a_X7_commute hI _)) (zml_cons (zcn hF ⟨Nat.le_refl _, Nat.le_refl _⟩ rfl (tw2 (i := 161) rfl) k_X7_setOf ⟨by decide, by decide⟩ (a_X7_setOf hI _)) zml_nil))))) (fun hF hr hk => zrt_I hF hr hk) h3⟩
def bl_X5_exploreWith : ZBl := [(0, none, [(.aload_n 0, 1, 0, []), (.getfield 22, 3, 0, []), (.iload_n 1, 1, 0, []), (.iaload, 1, 0, []), (.istore 5, 2, 0, []), (.iload 5, 2, 0, []), (.ifCond .ne 16, 3, 26, [])]), (13, none, [(.aload_n 0, 1, 0, []), (.dup, 1, 0, []), (.getfield 131, 3, 0, []), (.lload_n 3, 1, 0, []), (.ladd, 1, 0, []), (.putfield 131, 3, 0, []), (.goto 22, 3, 45, [])]), (26, none, [(.iload 5, 2, 0, []), (.iload_n 2, 1, 0, []), (.iconst (-1), 1, 0, []), (.ixor, 1, 0, []), (.iand, 1, 0, []), (.ifCond .ne 13, 3, 45, [])]), (35, none, [(.aload_n 0, 1, 0, []), (.dup, 1, 0, []), (.getfield 135, 3, 0, []), (.lload_n 3, 1, 0, []), (.ladd, 1, 0, []), (.putfield 135, 3, 0, [])]), (45, none, [(.iload_n 2, 1, 0, []), (.istore 6, 2, 0, []), (.iconst 0, 1, 0, []), (.istore 7, 2, 0, [])]), (51, some [true, true, true, true, false, true, true, true, false], [(.iload 7, 2, 0, []), (.iconst 4, 1, 0, []), (.if_icmp .ge 65, 3, 119, [])]), (57, none, [(.iload 7, 2, 0, []), (.iload 5, 2, 0, []), (.iload_n 2, 1, 0, []), (.iconst (-1), 1, 0, []), (.ixor, 1, 0, []), (.iand, 1, 0, []), (.invokestatic 87, 3, 0, []), (.ifCond .eq 45, 3, 113, [])]), (71, none, [(.aload_n 0, 1, 0, []), (.iload_n 1, 1, 0, []), (.iload 7, 2, 0, []), (.iload 6, 2, 0, []), (.invokevirtual 149, 3, 0, []), (.istore 8, 2, 0, []), (.aload_n 0, 1, 0, []), (.getfield 30, 3, 0, []), (.iload_n 1, 1, 0, []), (.iload 7, 2, 0, []), (.invokestatic 91, 3, 0, []), (.bipush 16, 2, 0, []), (.imul, 1, 0, []), (.iload 8, 2, 0, []), (.iadd, 1, 0, []), (.dup2, 1, 0, []), (.laload, 1, 0, []), (.lload_n 3, 1, 0, []), (.ladd, 1, 0, []), (.lastore, 1, 0, []), (.iload 6, 2, 0, []), (.iload 7, 2, 0, []), (.invokestatic 106, 3, 0, []), (.ior, 1, 0, []), (.istore 6, 2, 0, [])]), (113, none, [(.iinc 7 1, 3, 0, []), (.goto (-65), 3, 51, [])]), (119, none, [(.return_, 1, 0, [])])]
set_option maxRecDepth 20000 in
theorem bk_X5_exploreWith : zdb cX5_exploreWith 9 bl_X5_exploreWith = true := by decide +kernel
noncomputable def cm_X5_exploreWith (ρ : Type) : List (Nat × Nat × ZCall ρ) := [(175, 2, cI g_X7_isIn), (298, 4, cI g_X5_stillAsleep), (183, 2, cI g_X7_standAfter), (213, 1, cI g_X7_setOf)]
theorem lf_X5_exploreWith (ρ : Type) : LfM (cm_X5_exploreWith ρ) := lfm_of (lfm_cons (lfc_I g_X7_isIn) (lfm_cons (lfc_I g_X5_stillAsleep) (lfm_cons (lfc_I g_X7_standAfter) (lfm_cons (lfc_I g_X7_setOf) lfm_n))))
noncomputable def x_X5_exploreWith : ZJ Wd := zev cF_X5 cL_X5 bl_X5_exploreWith (cm_X5_exploreWith Wd) rV
noncomputable def f_X5_exploreWith (k0 : Nat) (x1 : Int32) (x2 : Int32) (y3 : Int64) (w : Wd) : Option Wd := x_X5_exploreWith 0 [] [some (zr 5 k0), some (zi x1), some (zi x2), some (zl y3), none, none, none, none, none] w
noncomputable def g_X5_exploreWith (r : List ZV) (w : Wd) : Option Wd := pR r fun tk0 k0 r => zif (Nat.beq tk0 5) (pI r fun x1 r => pI r fun x2 r => pL r fun y3 r => pE r (f_X5_exploreWith k0 x1 x2 y3 w))
set_option maxRecDepth 20000 in
theorem e_X5_exploreWith (k0 : Nat) (x1 : Int32) (x2 : Int32) (y3 : Int64) (w : Wd) : f_X5_exploreWith k0 x1 x2 y3 w = (chk x1 4096 (if (w.1 14 1 x1.toNatClampNeg) = 0 then (x_X5_exploreWith 51 [] [some (zr 5 k0), some (zi x1), some (zi x2), some (zl y3), none, some (zi (w.1 14 1 x1.toNatClampNeg)), some (zi x2), some (zi (Int32.ofInt 0)), none] (wL w 5 k0 7 ((w.2 5 k0 7) + y3))) else (if ((w.1 14 1 x1.toNatClampNeg) &&& (x2 ^^^ (Int32.ofInt (-1)))) = 0 then (x_X5_exploreWith 51 [] [some (zr 5 k0), some (zi x1), some (zi x2), some (zl y3), none, some (zi (w.1 14 1 x1.toNatClampNeg)), some (zi x2), some (zi (Int32.ofInt 0)), none] (wL w 5 k0 8 ((w.2 5 k0 8) + y3))) else (x_X5_exploreWith 51 [] [some (zr 5 k0), some (zi x1), some (zi x2), some (zl y3), none, some (zi (w.1 14 1 x1.toNatClampNeg)), some (zi x2), some (zi (Int32.ofInt 0)), none] w)))) := (zev_eq (lf_X5_exploreWith _) _ _ _ _).trans rfl
set_option maxRecDepth 20000 in
theorem e_X5_exploreWith_51 (k0 : Nat) (x1 : Int32) (x2 : Int32) (y3 : Int64) (x5 : Int32) (x6 : Int32) (x7 : Int32) (w : Wd) : x_X5_exploreWith 51 [] [some (zr 5 k0), some (zi x1), some (zi x2), some (zl y3), none, some (zi x5), some (zi x6), some (zi x7), none] w = (if (Int32.ofInt 4) ≤ x7 then (some w) else (oC (f_X7_isIn x7 (x5 &&& (x2 ^^^ (Int32.ofInt (-1)))) w) fun q1 => (if q1.1 = 0 then (x_X5_exploreWith 51 [] [some (zr 5 k0), some (zi x1), some (zi x2), some (zl y3), none, some (zi x5), some (zi x6), some (zi (x7 + (Int32.ofInt 1))), none] q1.2) else (oC (f_X5_stillAsleep k0 x1 x7 x6 q1.2) fun q2 => (oC (f_X7_standAfter x1 x7 q2.2) fun q3 => (chk ((q3.1 * (Int32.ofInt 16)) + q2.1) 65536 (chk ((q3.1 * (Int32.ofInt 16)) + q2.1) 65536 (oC (f_X7_setOf x7 (wL q3.2 17 2 ((q3.1 * (Int32.ofInt 16)) + q2.1).toNatClampNeg ((q3.2.2 17 2 ((q3.1 * (Int32.ofInt 16)) + q2.1).toNatClampNeg) + y3))) fun q4 => (x_X5_exploreWith 51 [] [some (zr 5 k0), some (zi x1), some (zi x2), some (zl y3), none, some (zi x5), some (zi (x6 ||| q4.1)), some (zi (x7 + (Int32.ofInt 1))), none] q4.2))))))))) := (zev_eq (lf_X5_exploreWith _) _ _ _ _).trans rfl
theorem k_X5_exploreWith : zLkV yX5_exploreWith cX5_exploreWith 9 none 5 3 := ⟨(tw2 (i := 216) rfl), (twp (n := 12) (List.mem_append_left _ (List.mem_of_getElem? (i := 12) rfl))), (tw1 (i := 7) rfl), (tw2 (i := 217) rfl), ⟨_, _, rfl⟩, rfl, by decide, by decide, by decide +kernel⟩
set_option maxHeartbeats 4000000 in
set_option maxRecDepth 20000 in
theorem a_X5_exploreWith {l : Launch} {D : va_G} {ad : Nat → Nat → Nat} {cA : Nat → ClassId} (hI : zInj ad) {ρ : Type} (X : ρ) : zAns l D ad cA yX5_exploreWith cX5_exploreWith 9 none 3 70 X (fun as => ∃ i as', as = zr 5 i :: as') (cV g_X5_exploreWith) := by
  intro as w Kf hv h
  obtain ⟨q, h1, h2⟩ := oC_inv h
  unfold g_X5_exploreWith at h1
  obtain ⟨tk0, k0, r, rfl, h1_1⟩ := pR_inv h1
  obtain ⟨bk0, h1_1z⟩ := zif_inv h1_1
  cases Nat.eq_of_beq_eq_true bk0
  obtain ⟨x1, r, rfl, h1_2⟩ := pI_inv h1_1z
  obtain ⟨x2, r, rfl, h1_3⟩ := pI_inv h1_2
  obtain ⟨y3, r, rfl, h1_4⟩ := pL_inv h1_3
  obtain ⟨rfl, h3⟩ := pE_inv h1_4
  exact ⟨_, _, ⟨_, _, rfl⟩, h2, trivial, zmeth (cM := cm_X5_exploreWith _) (bl := bl_X5_exploreWith) (ret := rV) hI (by decide) fl_X5 ll_X5 (lf_X5_exploreWith _) bk_X5_exploreWith (Nat.le_of_ble_eq_true rfl) hv (fun hF => (zml_cons (zcn hF ⟨Nat.le_refl _, Nat.le_refl _⟩ rfl (tw2 (i := 160) rfl) k_X7_isIn ⟨by decide, by decide⟩ (a_X7_isIn hI _)) (zml_cons (zcv hF ⟨Nat.le_refl _, Nat.le_refl _⟩ rfl (tw2 (i := 218) rfl) k_X5_stillAsleep ⟨by decide, by decide⟩ (a_X5_stillAsleep hI _)) (zml_cons (zcn hF ⟨Nat.le_refl _, Nat.le_refl _⟩ rfl (tw2 (i := 162) rfl) k_X7_standAfter ⟨by decide, by decide⟩ (a_X7_standAfter hI _)) (zml_cons (zcn hF ⟨Nat.le_refl _, Nat.le_refl _⟩ rfl (tw2 (i := 161) rfl) k_X7_setOf ⟨by decide, by decide⟩ (a_X7_setOf hI _)) zml_nil))))) (fun hF hr hk => zrt_V hF hr hk) h3⟩
def bl_X5_exploreFrom : ZBl := [(0, none, [(.iconst 0, 1, 0, []), (.istore_n 2, 1, 0, []), (.iconst 0, 1, 0, []), (.istore_n 3, 1, 0, [])]), (4, some [true, true, true, true, false, false], [(.iload_n 3, 1, 0, []), (.bipush 16, 2, 0, []), (.if_icmp .ge 39, 3, 46, [])]), (10, none, [(.aload_n 0, 1, 0, []), (.getfield 30, 3, 0, []), (.iload_n 1, 1, 0, []), (.bipush 16, 2, 0, []), (.imul, 1, 0, []), (.iload_n 3, 1, 0, []), (.iadd, 1, 0, []), (.laload, 1, 0, []), (.lstore 4, 2, 0, []), (.lload 4, 2, 0, []), (.lconst 0, 1, 0, []), (.lcmp, 1, 0, []), (.ifCond .eq 13, 3, 40, [])]), (30, none, [(.iconst 1, 1, 0, []), (.istore_n 2, 1, 0, []), (.aload_n 0, 1, 0, []), (.iload_n 1, 1, 0, []), (.iload_n 3, 1, 0, []), (.lload 4, 2, 0, []), (.invokevirtual 145, 3, 0, [])]), (40, none, [(.iinc 3 1, 3, 0, []), (.goto (-39), 3, 4, [])]), (46, none, [(.iload_n 2, 1, 0, []), (.ifCond .eq 21, 3, 68, [])]), (50, none, [(.aload_n 0, 1, 0, []), (.iload_n 1, 1, 0, []), (.invokevirtual 128, 3, 0, []), (.ifCond .eq 13, 3, 68, [])]), (58, none, [(.aload_n 0, 1, 0, []), (.dup, 1, 0, []), (.getfield 138, 3, 0, []), (.iconst 1, 1, 0, []), (.iadd, 1, 0, []), (.putfield 138, 3, 0, [])]), (68, none, [(.return_, 1, 0, [])])]
set_option maxRecDepth 20000 in
theorem bk_X5_exploreFrom : zdb cX5_exploreFrom 6 bl_X5_exploreFrom = true := by decide +kernel
noncomputable def cm_X5_exploreFrom (ρ : Type) : List (Nat × Nat × ZCall ρ) := [(290, 4, cV g_X5_exploreWith), (256, 2, cI g_X5_isDeadlock)]
theorem lf_X5_exploreFrom (ρ : Type) : LfM (cm_X5_exploreFrom ρ) := lfm_of (lfm_cons (lfc_V g_X5_exploreWith) (lfm_cons (lfc_I g_X5_isDeadlock) lfm_n))
noncomputable def x_X5_exploreFrom : ZJ Wd := zev cF_X5 cL_X5 bl_X5_exploreFrom (cm_X5_exploreFrom Wd) rV
noncomputable def f_X5_exploreFrom (k0 : Nat) (x1 : Int32) (w : Wd) : Option Wd := x_X5_exploreFrom 0 [] [some (zr 5 k0), some (zi x1), none, none, none, none] w
noncomputable def g_X5_exploreFrom (r : List ZV) (w : Wd) : Option Wd := pR r fun tk0 k0 r => zif (Nat.beq tk0 5) (pI r fun x1 r => pE r (f_X5_exploreFrom k0 x1 w))
set_option maxRecDepth 20000 in
theorem e_X5_exploreFrom (k0 : Nat) (x1 : Int32) (w : Wd) : f_X5_exploreFrom k0 x1 w = (x_X5_exploreFrom 4 [] [some (zr 5 k0), some (zi x1), some (zi (Int32.ofInt 0)), some (zi (Int32.ofInt 0)), none, none] w) := (zev_eq (lf_X5_exploreFrom _) _ _ _ _).trans rfl
set_option maxRecDepth 20000 in
theorem e_X5_exploreFrom_4 (k0 : Nat) (x1 : Int32) (x2 : Int32) (x3 : Int32) (w : Wd) : x_X5_exploreFrom 4 [] [some (zr 5 k0), some (zi x1), some (zi x2), some (zi x3), none, none] w = (if (Int32.ofInt 16) ≤ x3 then (if x2 = 0 then (some w) else (oC (f_X5_isDeadlock k0 x1 w) fun q1 => (if q1.1 = 0 then (some q1.2) else (some (wI q1.2 5 k0 9 ((q1.2.1 5 k0 9) + (Int32.ofInt 1))))))) else (chk ((x1 * (Int32.ofInt 16)) + x3) 65536 (if (lg_cmp (w.2 17 2 ((x1 * (Int32.ofInt 16)) + x3).toNatClampNeg) (Int64.ofInt 0)) = 0 then (x_X5_exploreFrom 4 [] [some (zr 5 k0), some (zi x1), some (zi x2), some (zi (x3 + (Int32.ofInt 1))), none, none] w) else (oC (f_X5_exploreWith k0 x1 x3 (w.2 17 2 ((x1 * (Int32.ofInt 16)) + x3).toNatClampNeg) w) fun q2 => (x_X5_exploreFrom 4 [] [some (zr 5 k0), some (zi x1), some (zi (Int32.ofInt 1)), some (zi (x3 + (Int32.ofInt 1))), none, none] q2))))) := (zev_eq (lf_X5_exploreFrom _) _ _ _ _).trans rfl
theorem k_X5_exploreFrom : zLkV yX5_exploreFrom cX5_exploreFrom 6 none 5 1 := ⟨(tw2 (i := 212) rfl), (twp (n := 12) (List.mem_append_left _ (List.mem_of_getElem? (i := 11) rfl))), (tw1 (i := 7) rfl), (tw2 (i := 213) rfl), ⟨_, _, rfl⟩, rfl, by decide, by decide, by decide +kernel⟩
set_option maxHeartbeats 4000000 in
set_option maxRecDepth 20000 in
theorem a_X5_exploreFrom {l : Launch} {D : va_G} {ad : Nat → Nat → Nat} {cA : Nat → ClassId} (hI : zInj ad) {ρ : Type} (X : ρ) : zAns l D ad cA yX5_exploreFrom cX5_exploreFrom 6 none 4 98 X (fun as => ∃ i as', as = zr 5 i :: as') (cV g_X5_exploreFrom) := by
  intro as w Kf hv h
  obtain ⟨q, h1, h2⟩ := oC_inv h
  unfold g_X5_exploreFrom at h1
  obtain ⟨tk0, k0, r, rfl, h1_1⟩ := pR_inv h1
  obtain ⟨bk0, h1_1z⟩ := zif_inv h1_1
  cases Nat.eq_of_beq_eq_true bk0
  obtain ⟨x1, r, rfl, h1_2⟩ := pI_inv h1_1z
  obtain ⟨rfl, h3⟩ := pE_inv h1_2
  exact ⟨_, _, ⟨_, _, rfl⟩, h2, trivial, zmeth (cM := cm_X5_exploreFrom _) (bl := bl_X5_exploreFrom) (ret := rV) hI (by decide) fl_X5 ll_X5 (lf_X5_exploreFrom _) bk_X5_exploreFrom (Nat.le_of_ble_eq_true rfl) hv (fun hF => (zml_cons (zcv hF ⟨Nat.le_refl _, Nat.le_refl _⟩ rfl (tw2 (i := 214) rfl) k_X5_exploreWith ⟨by decide, by decide⟩ (a_X5_exploreWith hI _)) (zml_cons (zcv hF ⟨Nat.le_refl _, Nat.le_refl _⟩ rfl (tw2 (i := 181) rfl) k_X5_isDeadlock ⟨by decide, by decide⟩ (a_X5_isDeadlock hI _)) zml_nil))) (fun hF hr hk => zrt_V hF hr hk) h3⟩
def bl_X5_exploreWithSleepSets : ZBl := [(0, none, [(.aload_n 0, 1, 0, []), (.getfield 56, 3, 0, []), (.ifCond .eq 4, 3, 8, [])]), (7, none, [(.return_, 1, 0, [])]), (8, none, [(.aload_n 0, 1, 0, []), (.iconst 1, 1, 0, []), (.putfield 56, 3, 0, []), (.aload_n 0, 1, 0, []), (.lconst 0, 1, 0, []), (.putfield 131, 3, 0, []), (.aload_n 0, 1, 0, []), (.lconst 0, 1, 0, []), (.putfield 135, 3, 0, []), (.aload_n 0, 1, 0, []), (.iconst 0, 1, 0, []), (.putfield 138, 3, 0, []), (.aload_n 0, 1, 0, []), (.getfield 30, 3, 0, []), (.lconst 0, 1, 0, []), (.invokestatic 68, 3, 0, []), (.aload_n 0, 1, 0, []), (.getfield 30, 3, 0, []), (.iconst 0, 1, 0, []), (.lconst 1, 1, 0, []), (.lastore, 1, 0, []), (.iconst 0, 1, 0, []), (.istore_n 1, 1, 0, [])]), (45, some [true, true], [(.iload_n 1, 1, 0, []), (.sipush 4096, 3, 0, []), (.if_icmp .ge 22, 3, 71, [])]), (52, none, [(.aload_n 0, 1, 0, []), (.iload_n 1, 1, 0, []), (.invokevirtual 71, 3, 0, []), (.ifCond .eq 8, 3, 65, [])]), (60, none, [(.aload_n 0, 1, 0, []), (.iload_n 1, 1, 0, []), (.invokevirtual 142, 3, 0, [])]), (65, none, [(.iinc 1 1, 3, 0, []), (.goto (-23), 3, 45, [])]), (71, none, [(.return_, 1, 0, [])])]
set_option maxRecDepth 20000 in
theorem bk_X5_exploreWithSleepSets : zdb cX5_exploreWithSleepSets 2 bl_X5_exploreWithSleepSets = true := by decide +kernel
noncomputable def cm_X5_exploreWithSleepSets (ρ : Type) : List (Nat × Nat × ZCall ρ) := [(137, 2, cV g_J7_fill_d0a16), (142, 2, cI g_X5_isReachable), (284, 2, cV g_X5_exploreFrom)]
theorem lf_X5_exploreWithSleepSets (ρ : Type) : LfM (cm_X5_exploreWithSleepSets ρ) := lfm_of (lfm_cons (lfc_V g_J7_fill_d0a16) (lfm_cons (lfc_I g_X5_isReachable) (lfm_cons (lfc_V g_X5_exploreFrom) lfm_n)))
noncomputable def x_X5_exploreWithSleepSets : ZJ Wd := zev cF_X5 cL_X5 bl_X5_exploreWithSleepSets (cm_X5_exploreWithSleepSets Wd) rV
noncomputable def f_X5_exploreWithSleepSets (k0 : Nat) (w : Wd) : Option Wd := x_X5_exploreWithSleepSets 0 [] [some (zr 5 k0), none] w
noncomputable def g_X5_exploreWithSleepSets (r : List ZV) (w : Wd) : Option Wd := pR r fun tk0 k0 r => zif (Nat.beq tk0 5) (pE r (f_X5_exploreWithSleepSets k0 w))
set_option maxRecDepth 20000 in
theorem e_X5_exploreWithSleepSets (k0 : Nat) (w : Wd) : f_X5_exploreWithSleepSets k0 w = (if (w.1 5 k0 5) = 0 then (zb (Int32.ofInt 1) (oC (f_J7_fill_d0a16 2 (Int64.ofInt 0) (wI (wL (wL (wI w 5 k0 5 (Int32.ofInt 1)) 5 k0 7 (Int64.ofInt 0)) 5 k0 8 (Int64.ofInt 0)) 5 k0 9 (Int32.ofInt 0))) fun q1 => (chk (Int32.ofInt 0) 65536 (x_X5_exploreWithSleepSets 45 [] [some (zr 5 k0), some (zi (Int32.ofInt 0))] (wL q1 17 2 (Int32.ofInt 0).toNatClampNeg (Int64.ofInt 1)))))) else (some w)) := (zev_eq (lf_X5_exploreWithSleepSets _) _ _ _ _).trans rfl
set_option maxRecDepth 20000 in
theorem e_X5_exploreWithSleepSets_45 (k0 : Nat) (x1 : Int32) (w : Wd) : x_X5_exploreWithSleepSets 45 [] [some (zr 5 k0), some (zi x1)] w = (if (Int32.ofInt 4096) ≤ x1 then (some w) else (oC (f_X5_isReachable k0 x1 w) fun q1 => (if q1.1 = 0 then (x_X5_exploreWithSleepSets 45 [] [some (zr 5 k0), some (zi (x1 + (Int32.ofInt 1)))] q1.2) else (oC (f_X5_exploreFrom k0 x1 q1.2) fun q2 => (x_X5_exploreWithSleepSets 45 [] [some (zr 5 k0), some (zi (x1 + (Int32.ofInt 1)))] q2))))) := (zev_eq (lf_X5_exploreWithSleepSets _) _ _ _ _).trans rfl
theorem k_X5_exploreWithSleepSets : zLkV yX5_exploreWithSleepSets cX5_exploreWithSleepSets 2 none 5 0 := ⟨(tw2 (i := 207) rfl), (tw2 (i := 208) rfl), (tw1 (i := 7) rfl), (tw2 (i := 209) rfl), ⟨_, _, rfl⟩, rfl, by decide, by decide, by decide +kernel⟩
set_option maxHeartbeats 4000000 in
set_option maxRecDepth 20000 in
theorem a_X5_exploreWithSleepSets {l : Launch} {D : va_G} {ad : Nat → Nat → Nat} {cA : Nat → ClassId} (hI : zInj ad) {ρ : Type} (X : ρ) : zAns l D ad cA yX5_exploreWithSleepSets cX5_exploreWithSleepSets 2 none 5 123 X (fun as => ∃ i as', as = zr 5 i :: as') (cV g_X5_exploreWithSleepSets) := by
  intro as w Kf hv h
  obtain ⟨q, h1, h2⟩ := oC_inv h
  unfold g_X5_exploreWithSleepSets at h1
  obtain ⟨tk0, k0, r, rfl, h1_1⟩ := pR_inv h1
  obtain ⟨bk0, h1_1z⟩ := zif_inv h1_1
  cases Nat.eq_of_beq_eq_true bk0
  obtain ⟨rfl, h3⟩ := pE_inv h1_1z
  exact ⟨_, _, ⟨_, _, rfl⟩, h2, trivial, zmeth (cM := cm_X5_exploreWithSleepSets _) (bl := bl_X5_exploreWithSleepSets) (ret := rV) hI (by decide) fl_X5 ll_X5 (lf_X5_exploreWithSleepSets _) bk_X5_exploreWithSleepSets (Nat.le_of_ble_eq_true rfl) hv (fun hF => (zml_cons (zcs hF ⟨Nat.le_refl _, Nat.le_refl _⟩ rfl (tw2 (i := 131) rfl) k_J7_fill_d0a16 ⟨by decide, by decide⟩ (a_J7_fill_d0a16 hI _)) (zml_cons (zcv hF ⟨Nat.le_refl _, Nat.le_refl _⟩ rfl (tw2 (i := 134) rfl) k_X5_isReachable ⟨by decide, by decide⟩ (a_X5_isReachable hI _)) (zml_cons (zcv hF ⟨Nat.le_refl _, Nat.le_refl _⟩ rfl (tw2 (i := 210) rfl) k_X5_exploreFrom ⟨by decide, by decide⟩ (a_X5_exploreFrom hI _)) zml_nil)))) (fun hF hr hk => zrt_V hF hr hk) h3⟩
def bl_X5_sleepEnds : ZBl := [(0, none, [(.aload_n 0, 1, 0, []), (.getfield 131, 3, 0, []), (.lreturn, 1, 0, [])])]
set_option maxRecDepth 20000 in
theorem bk_X5_sleepEnds : zdb cX5_sleepEnds 1 bl_X5_sleepEnds = true := by decide +kernel
noncomputable def cm_X5_sleepEnds (ρ : Type) : List (Nat × Nat × ZCall ρ) := []
theorem lf_X5_sleepEnds (ρ : Type) : LfM (cm_X5_sleepEnds ρ) := lfm_of lfm_n
noncomputable def x_X5_sleepEnds : ZJ (Int64 × Wd) := zev cF_X5 cL_X5 bl_X5_sleepEnds (cm_X5_sleepEnds (Int64 × Wd)) rJ
noncomputable def f_X5_sleepEnds (k0 : Nat) (w : Wd) : Option (Int64 × Wd) := x_X5_sleepEnds 0 [] [some (zr 5 k0)] w
noncomputable def g_X5_sleepEnds (r : List ZV) (w : Wd) : Option (Int64 × Wd) := pR r fun tk0 k0 r => zif (Nat.beq tk0 5) (pE r (f_X5_sleepEnds k0 w))
set_option maxRecDepth 20000 in
theorem e_X5_sleepEnds (k0 : Nat) (w : Wd) : f_X5_sleepEnds k0 w = (some ((w.2 5 k0 7), w)) := (zev_eq (lf_X5_sleepEnds _) _ _ _ _).trans rfl
theorem k_X5_sleepEnds : zLkV yX5_sleepEnds cX5_sleepEnds 1 (some .long) 5 0 := ⟨(tw2 (i := 224) rfl), (tw2 (i := 225) rfl), (tw1 (i := 7) rfl), (tw2 (i := 226) rfl), ⟨_, _, rfl⟩, rfl, by decide, by decide, by decide +kernel⟩
set_option maxHeartbeats 4000000 in
set_option maxRecDepth 20000 in
theorem a_X5_sleepEnds {l : Launch} {D : va_G} {ad : Nat → Nat → Nat} {cA : Nat → ClassId} (hI : zInj ad) {ρ : Type} (X : ρ) : zAns l D ad cA yX5_sleepEnds cX5_sleepEnds 1 (some .long) 0 0 X (fun as => ∃ i as', as = zr 5 i :: as') (cJ g_X5_sleepEnds) := by
  intro as w Kf hv h
  obtain ⟨q, h1, h2⟩ := oC_inv h
  unfold g_X5_sleepEnds at h1
  obtain ⟨tk0, k0, r, rfl, h1_1⟩ := pR_inv h1
  obtain ⟨bk0, h1_1z⟩ := zif_inv h1_1
  cases Nat.eq_of_beq_eq_true bk0
  obtain ⟨rfl, h3⟩ := pE_inv h1_1z
  exact ⟨_, _, ⟨_, _, rfl⟩, h2, trivial, zmeth (cM := cm_X5_sleepEnds _) (bl := bl_X5_sleepEnds) (ret := rJ) hI (by decide) fl_X5 ll_X5 (lf_X5_sleepEnds _) bk_X5_sleepEnds (Nat.le_of_ble_eq_true rfl) hv (fun hF => zml_nil) (fun hF hr hk => zrt_J hF hr hk) h3⟩
def bl_X5_sleepCuts : ZBl := [(0, none, [(.aload_n 0, 1, 0, []), (.getfield 135, 3, 0, []), (.lreturn, 1, 0, [])])]
set_option maxRecDepth 20000 in
theorem bk_X5_sleepCuts : zdb cX5_sleepCuts 1 bl_X5_sleepCuts = true := by decide +kernel
noncomputable def cm_X5_sleepCuts (ρ : Type) : List (Nat × Nat × ZCall ρ) := []
theorem lf_X5_sleepCuts (ρ : Type) : LfM (cm_X5_sleepCuts ρ) := lfm_of lfm_n
noncomputable def x_X5_sleepCuts : ZJ (Int64 × Wd) := zev cF_X5 cL_X5 bl_X5_sleepCuts (cm_X5_sleepCuts (Int64 × Wd)) rJ
noncomputable def f_X5_sleepCuts (k0 : Nat) (w : Wd) : Option (Int64 × Wd) := x_X5_sleepCuts 0 [] [some (zr 5 k0)] w
noncomputable def g_X5_sleepCuts (r : List ZV) (w : Wd) : Option (Int64 × Wd) := pR r fun tk0 k0 r => zif (Nat.beq tk0 5) (pE r (f_X5_sleepCuts k0 w))
set_option maxRecDepth 20000 in
theorem e_X5_sleepCuts (k0 : Nat) (w : Wd) : f_X5_sleepCuts k0 w = (some ((w.2 5 k0 8), w)) := (zev_eq (lf_X5_sleepCuts _) _ _ _ _).trans rfl
theorem k_X5_sleepCuts : zLkV yX5_sleepCuts cX5_sleepCuts 1 (some .long) 5 0 := ⟨(tw2 (i := 228) rfl), (tw2 (i := 229) rfl), (tw1 (i := 7) rfl), (tw2 (i := 230) rfl), ⟨_, _, rfl⟩, rfl, by decide, by decide, by decide +kernel⟩
set_option maxHeartbeats 4000000 in
set_option maxRecDepth 20000 in
theorem a_X5_sleepCuts {l : Launch} {D : va_G} {ad : Nat → Nat → Nat} {cA : Nat → ClassId} (hI : zInj ad) {ρ : Type} (X : ρ) : zAns l D ad cA yX5_sleepCuts cX5_sleepCuts 1 (some .long) 0 0 X (fun as => ∃ i as', as = zr 5 i :: as') (cJ g_X5_sleepCuts) := by
  intro as w Kf hv h
  obtain ⟨q, h1, h2⟩ := oC_inv h
  unfold g_X5_sleepCuts at h1
  obtain ⟨tk0, k0, r, rfl, h1_1⟩ := pR_inv h1
  obtain ⟨bk0, h1_1z⟩ := zif_inv h1_1
  cases Nat.eq_of_beq_eq_true bk0
  obtain ⟨rfl, h3⟩ := pE_inv h1_1z
  exact ⟨_, _, ⟨_, _, rfl⟩, h2, trivial, zmeth (cM := cm_X5_sleepCuts _) (bl := bl_X5_sleepCuts) (ret := rJ) hI (by decide) fl_X5 ll_X5 (lf_X5_sleepCuts _) bk_X5_sleepCuts (Nat.le_of_ble_eq_true rfl) hv (fun hF => zml_nil) (fun hF hr hk => zrt_J hF hr hk) h3⟩
def bl_X5_sleepDeadlocks : ZBl := [(0, none, [(.aload_n 0, 1, 0, []), (.getfield 138, 3, 0, []), (.ireturn, 1, 0, [])])]
set_option maxRecDepth 20000 in
theorem bk_X5_sleepDeadlocks : zdb cX5_sleepDeadlocks 1 bl_X5_sleepDeadlocks = true := by decide +kernel
noncomputable def cm_X5_sleepDeadlocks (ρ : Type) : List (Nat × Nat × ZCall ρ) := []
theorem lf_X5_sleepDeadlocks (ρ : Type) : LfM (cm_X5_sleepDeadlocks ρ) := lfm_of lfm_n
noncomputable def x_X5_sleepDeadlocks : ZJ (Int32 × Wd) := zev cF_X5 cL_X5 bl_X5_sleepDeadlocks (cm_X5_sleepDeadlocks (Int32 × Wd)) rI
noncomputable def f_X5_sleepDeadlocks (k0 : Nat) (w : Wd) : Option (Int32 × Wd) := x_X5_sleepDeadlocks 0 [] [some (zr 5 k0)] w
noncomputable def g_X5_sleepDeadlocks (r : List ZV) (w : Wd) : Option (Int32 × Wd) := pR r fun tk0 k0 r => zif (Nat.beq tk0 5) (pE r (f_X5_sleepDeadlocks k0 w))
set_option maxRecDepth 20000 in
theorem e_X5_sleepDeadlocks (k0 : Nat) (w : Wd) : f_X5_sleepDeadlocks k0 w = (some ((w.1 5 k0 9), w)) := (zev_eq (lf_X5_sleepDeadlocks _) _ _ _ _).trans rfl
theorem k_X5_sleepDeadlocks : zLkV yX5_sleepDeadlocks cX5_sleepDeadlocks 1 (some .int) 5 0 := ⟨(tw2 (i := 232) rfl), (tw2 (i := 233) rfl), (tw1 (i := 7) rfl), (tw2 (i := 234) rfl), ⟨_, _, rfl⟩, rfl, by decide, by decide, by decide +kernel⟩
set_option maxHeartbeats 4000000 in
set_option maxRecDepth 20000 in
theorem a_X5_sleepDeadlocks {l : Launch} {D : va_G} {ad : Nat → Nat → Nat} {cA : Nat → ClassId} (hI : zInj ad) {ρ : Type} (X : ρ) : zAns l D ad cA yX5_sleepDeadlocks cX5_sleepDeadlocks 1 (some .int) 0 0 X (fun as => ∃ i as', as = zr 5 i :: as') (cI g_X5_sleepDeadlocks) := by
  intro as w Kf hv h
  obtain ⟨q, h1, h2⟩ := oC_inv h
  unfold g_X5_sleepDeadlocks at h1
  obtain ⟨tk0, k0, r, rfl, h1_1⟩ := pR_inv h1
  obtain ⟨bk0, h1_1z⟩ := zif_inv h1_1
  cases Nat.eq_of_beq_eq_true bk0
  obtain ⟨rfl, h3⟩ := pE_inv h1_1z
  exact ⟨_, _, ⟨_, _, rfl⟩, h2, trivial, zmeth (cM := cm_X5_sleepDeadlocks _) (bl := bl_X5_sleepDeadlocks) (ret := rI) hI (by decide) fl_X5 ll_X5 (lf_X5_sleepDeadlocks _) bk_X5_sleepDeadlocks (Nat.le_of_ble_eq_true rfl) hv (fun hF => zml_nil) (fun hF hr hk => zrt_I hF hr hk) h3⟩
def bl_X7_stepsDone : ZBl := [(0, none, [(.iconst 0, 1, 0, []), (.istore_n 1, 1, 0, []), (.iconst 0, 1, 0, []), (.istore_n 2, 1, 0, [])]), (4, some [true, true, true], [(.iload_n 2, 1, 0, []), (.iconst 4, 1, 0, []), (.if_icmp .ge 17, 3, 23, [])]), (9, none, [(.iload_n 1, 1, 0, []), (.iload_n 0, 1, 0, []), (.iload_n 2, 1, 0, []), (.invokestatic 179, 3, 0, []), (.iadd, 1, 0, []), (.istore_n 1, 1, 0, []), (.iinc 2 1, 3, 0, []), (.goto (-16), 3, 4, [])]), (23, none, [(.iload_n 1, 1, 0, []), (.ireturn, 1, 0, [])])]
set_option maxRecDepth 20000 in
theorem bk_X7_stepsDone : zdb cX7_stepsDone 3 bl_X7_stepsDone = true := by decide +kernel
noncomputable def cm_X7_stepsDone (ρ : Type) : List (Nat × Nat × ZCall ρ) := [(359, 2, cI g_X7_doneBy)]
theorem lf_X7_stepsDone (ρ : Type) : LfM (cm_X7_stepsDone ρ) := lfm_of (lfm_cons (lfc_I g_X7_doneBy) lfm_n)
noncomputable def x_X7_stepsDone : ZJ (Int32 × Wd) := zev cF_X7 cL_X7 bl_X7_stepsDone (cm_X7_stepsDone (Int32 × Wd)) rI
noncomputable def f_X7_stepsDone (x0 : Int32) (w : Wd) : Option (Int32 × Wd) := x_X7_stepsDone 0 [] [some (zi x0), none, none] w
noncomputable def g_X7_stepsDone (r : List ZV) (w : Wd) : Option (Int32 × Wd) := pI r fun x0 r => pE r (f_X7_stepsDone x0 w)
set_option maxRecDepth 20000 in
theorem e_X7_stepsDone (x0 : Int32) (w : Wd) : f_X7_stepsDone x0 w = (x_X7_stepsDone 4 [] [some (zi x0), some (zi (Int32.ofInt 0)), some (zi (Int32.ofInt 0))] w) := (zev_eq (lf_X7_stepsDone _) _ _ _ _).trans rfl
set_option maxRecDepth 20000 in
theorem e_X7_stepsDone_4 (x0 : Int32) (x1 : Int32) (x2 : Int32) (w : Wd) : x_X7_stepsDone 4 [] [some (zi x0), some (zi x1), some (zi x2)] w = (if (Int32.ofInt 4) ≤ x2 then (some (x1, w)) else (oC (f_X7_doneBy x0 x2 w) fun q1 => (x_X7_stepsDone 4 [] [some (zi x0), some (zi (x1 + q1.1)), some (zi (x2 + (Int32.ofInt 1)))] q1.2))) := (zev_eq (lf_X7_stepsDone _) _ _ _ _).trans rfl
theorem k_X7_stepsDone : zLkS yX7_stepsDone cX7_stepsDone 3 (some .int) 1 := ⟨(tw3 (i := 152) rfl), (tw1 (i := 1) rfl), (tw3 (i := 153) rfl), by decide, by decide, by decide +kernel⟩
set_option maxHeartbeats 4000000 in
set_option maxRecDepth 20000 in
theorem a_X7_stepsDone {l : Launch} {D : va_G} {ad : Nat → Nat → Nat} {cA : Nat → ClassId} (hI : zInj ad) {ρ : Type} (X : ρ) : zAns l D ad cA yX7_stepsDone cX7_stepsDone 3 (some .int) 1 21 X (fun _ => True) (cI g_X7_stepsDone) := by
  intro as w Kf hv h
  obtain ⟨q, h1, h2⟩ := oC_inv h
  unfold g_X7_stepsDone at h1
  obtain ⟨x0, r, rfl, h1_1⟩ := pI_inv h1
  obtain ⟨rfl, h3⟩ := pE_inv h1_1
  exact ⟨_, _, trivial, h2, trivial, zmeth (cM := cm_X7_stepsDone _) (bl := bl_X7_stepsDone) (ret := rI) hI (by decide) fl_X7 ll_X7 (lf_X7_stepsDone _) bk_X7_stepsDone (Nat.le_of_ble_eq_true rfl) hv (fun hF => (zml_cons (zcs hF ⟨Nat.le_refl _, Nat.le_refl _⟩ rfl (tw3 (i := 149) rfl) k_X7_doneBy ⟨by decide, by decide⟩ (a_X7_doneBy hI _)) zml_nil)) (fun hF hr hk => zrt_I hF hr hk) h3⟩
def bl_X5_shortestWay : ZBl := [(0, none, [(.bipush (-6), 2, 0, []), (.istore_n 1, 1, 0, []), (.iconst 0, 1, 0, []), (.istore_n 2, 1, 0, [])]), (5, some [true, true, true], [(.iload_n 2, 1, 0, []), (.sipush 4096, 3, 0, []), (.if_icmp .ge 36, 3, 45, [])]), (12, none, [(.aload_n 0, 1, 0, []), (.iload_n 2, 1, 0, []), (.invokevirtual 128, 3, 0, []), (.ifCond .eq 22, 3, 39, [])]), (20, none, [(.iload_n 1, 1, 0, []), (.bipush (-6), 2, 0, []), (.if_icmp .eq 11, 3, 34, [])]), (26, none, [(.iload_n 2, 1, 0, []), (.invokestatic 171, 3, 0, []), (.iload_n 1, 1, 0, []), (.if_icmp .ge 8, 3, 39, [])]), (34, none, [(.iload_n 2, 1, 0, []), (.invokestatic 171, 3, 0, []), (.istore_n 1, 1, 0, [])]), (39, none, [(.iinc 2 1, 3, 0, []), (.goto (-37), 3, 5, [])]), (45, none, [(.iload_n 1, 1, 0, []), (.ireturn, 1, 0, [])])]
set_option maxRecDepth 20000 in
theorem bk_X5_shortestWay : zdb cX5_shortestWay 3 bl_X5_shortestWay = true := by decide +kernel
noncomputable def cm_X5_shortestWay (ρ : Type) : List (Nat × Nat × ZCall ρ) := [(256, 2, cI g_X5_isDeadlock), (343, 1, cI g_X7_stepsDone)]
theorem lf_X5_shortestWay (ρ : Type) : LfM (cm_X5_shortestWay ρ) := lfm_of (lfm_cons (lfc_I g_X5_isDeadlock) (lfm_cons (lfc_I g_X7_stepsDone) lfm_n))
noncomputable def x_X5_shortestWay : ZJ (Int32 × Wd) := zev cF_X5 cL_X5 bl_X5_shortestWay (cm_X5_shortestWay (Int32 × Wd)) rI
noncomputable def f_X5_shortestWay (k0 : Nat) (w : Wd) : Option (Int32 × Wd) := x_X5_shortestWay 0 [] [some (zr 5 k0), none, none] w
noncomputable def g_X5_shortestWay (r : List ZV) (w : Wd) : Option (Int32 × Wd) := pR r fun tk0 k0 r => zif (Nat.beq tk0 5) (pE r (f_X5_shortestWay k0 w))
set_option maxRecDepth 20000 in
theorem e_X5_shortestWay (k0 : Nat) (w : Wd) : f_X5_shortestWay k0 w = (x_X5_shortestWay 5 [] [some (zr 5 k0), some (zi (Int32.ofInt (-6))), some (zi (Int32.ofInt 0))] w) := (zev_eq (lf_X5_shortestWay _) _ _ _ _).trans rfl
set_option maxRecDepth 20000 in
theorem e_X5_shortestWay_5 (k0 : Nat) (x1 : Int32) (x2 : Int32) (w : Wd) : x_X5_shortestWay 5 [] [some (zr 5 k0), some (zi x1), some (zi x2)] w = (if (Int32.ofInt 4096) ≤ x2 then (some (x1, w)) else (oC (f_X5_isDeadlock k0 x2 w) fun q1 => (if q1.1 = 0 then (x_X5_shortestWay 5 [] [some (zr 5 k0), some (zi x1), some (zi (x2 + (Int32.ofInt 1)))] q1.2) else (if x1 = (Int32.ofInt (-6)) then (oC (f_X7_stepsDone x2 q1.2) fun q2 => (x_X5_shortestWay 5 [] [some (zr 5 k0), some (zi q2.1), some (zi (x2 + (Int32.ofInt 1)))] q2.2)) else (oC (f_X7_stepsDone x2 q1.2) fun q3 => (if x1 ≤ q3.1 then (x_X5_shortestWay 5 [] [some (zr 5 k0), some (zi x1), some (zi (x2 + (Int32.ofInt 1)))] q3.2) else (oC (f_X7_stepsDone x2 q3.2) fun q4 => (x_X5_shortestWay 5 [] [some (zr 5 k0), some (zi q4.1), some (zi (x2 + (Int32.ofInt 1)))] q4.2)))))))) := (zev_eq (lf_X5_shortestWay _) _ _ _ _).trans rfl
theorem k_X5_shortestWay : zLkV yX5_shortestWay cX5_shortestWay 3 (some .int) 5 0 := ⟨(tw3 (i := 169) rfl), (twp (n := 12) (List.mem_append_right _ (List.mem_of_getElem? (i := 2) rfl))), (tw1 (i := 7) rfl), (tw3 (i := 170) rfl), ⟨_, _, rfl⟩, rfl, by decide, by decide, by decide +kernel⟩
set_option maxHeartbeats 4000000 in
set_option maxRecDepth 20000 in
theorem a_X5_shortestWay {l : Launch} {D : va_G} {ad : Nat → Nat → Nat} {cA : Nat → ClassId} (hI : zInj ad) {ρ : Type} (X : ρ) : zAns l D ad cA yX5_shortestWay cX5_shortestWay 3 (some .int) 4 88 X (fun as => ∃ i as', as = zr 5 i :: as') (cI g_X5_shortestWay) := by
  intro as w Kf hv h
  obtain ⟨q, h1, h2⟩ := oC_inv h
  unfold g_X5_shortestWay at h1
  obtain ⟨tk0, k0, r, rfl, h1_1⟩ := pR_inv h1
  obtain ⟨bk0, h1_1z⟩ := zif_inv h1_1
  cases Nat.eq_of_beq_eq_true bk0
  obtain ⟨rfl, h3⟩ := pE_inv h1_1z
  exact ⟨_, _, ⟨_, _, rfl⟩, h2, trivial, zmeth (cM := cm_X5_shortestWay _) (bl := bl_X5_shortestWay) (ret := rI) hI (by decide) fl_X5 ll_X5 (lf_X5_shortestWay _) bk_X5_shortestWay (Nat.le_of_ble_eq_true rfl) hv (fun hF => (zml_cons (zcv hF ⟨Nat.le_refl _, Nat.le_refl _⟩ rfl (tw2 (i := 181) rfl) k_X5_isDeadlock ⟨by decide, by decide⟩ (a_X5_isDeadlock hI _)) (zml_cons (zcn hF ⟨Nat.le_refl _, Nat.le_refl _⟩ rfl (tw3 (i := 171) rfl) k_X7_stepsDone ⟨by decide, by decide⟩ (a_X7_stepsDone hI _)) zml_nil))) (fun hF hr hk => zrt_I hF hr hk) h3⟩
def bl_X5_leastLeading : ZBl := [(0, none, [(.iconst 0, 1, 0, []), (.istore_n 2, 1, 0, [])]), (2, some [true, true, true], [(.iload_n 2, 1, 0, []), (.iconst 4, 1, 0, []), (.if_icmp .ge 37, 3, 41, [])]), (7, none, [(.iload_n 2, 1, 0, []), (.aload_n 0, 1, 0, []), (.getfield 22, 3, 0, []), (.iload_n 1, 1, 0, []), (.iaload, 1, 0, []), (.invokestatic 87, 3, 0, []), (.ifCond .eq 18, 3, 35, [])]), (20, none, [(.aload_n 0, 1, 0, []), (.getfield 33, 3, 0, []), (.iload_n 1, 1, 0, []), (.iload_n 2, 1, 0, []), (.invokestatic 91, 3, 0, []), (.baload, 1, 0, []), (.ifCond .eq 5, 3, 35, [])]), (33, none, [(.iload_n 2, 1, 0, []), (.ireturn, 1, 0, [])]), (35, none, [(.iinc 2 1, 3, 0, []), (.goto (-36), 3, 2, [])]), (41, none, [(.bipush (-6), 2, 0, []), (.ireturn, 1, 0, [])])]
set_option maxRecDepth 20000 in
theorem bk_X5_leastLeading : zdb cX5_leastLeading 3 bl_X5_leastLeading = true := by decide +kernel
noncomputable def cm_X5_leastLeading (ρ : Type) : List (Nat × Nat × ZCall ρ) := [(175, 2, cI g_X7_isIn), (183, 2, cI g_X7_standAfter)]
theorem lf_X5_leastLeading (ρ : Type) : LfM (cm_X5_leastLeading ρ) := lfm_of (lfm_cons (lfc_I g_X7_isIn) (lfm_cons (lfc_I g_X7_standAfter) lfm_n))
noncomputable def x_X5_leastLeading : ZJ (Int32 × Wd) := zev cF_X5 cL_X5 bl_X5_leastLeading (cm_X5_leastLeading (Int32 × Wd)) rI
noncomputable def f_X5_leastLeading (k0 : Nat) (x1 : Int32) (w : Wd) : Option (Int32 × Wd) := x_X5_leastLeading 0 [] [some (zr 5 k0), some (zi x1), none] w
noncomputable def g_X5_leastLeading (r : List ZV) (w : Wd) : Option (Int32 × Wd) := pR r fun tk0 k0 r => zif (Nat.beq tk0 5) (pI r fun x1 r => pE r (f_X5_leastLeading k0 x1 w))
set_option maxRecDepth 20000 in
theorem e_X5_leastLeading (k0 : Nat) (x1 : Int32) (w : Wd) : f_X5_leastLeading k0 x1 w = (x_X5_leastLeading 2 [] [some (zr 5 k0), some (zi x1), some (zi (Int32.ofInt 0))] w) := (zev_eq (lf_X5_leastLeading _) _ _ _ _).trans rfl
set_option maxRecDepth 20000 in
theorem e_X5_leastLeading_2 (k0 : Nat) (x1 : Int32) (x2 : Int32) (w : Wd) : x_X5_leastLeading 2 [] [some (zr 5 k0), some (zi x1), some (zi x2)] w = (if (Int32.ofInt 4) ≤ x2 then (some ((Int32.ofInt (-6)), w)) else (chk x1 4096 (oC (f_X7_isIn x2 (w.1 14 1 x1.toNatClampNeg) w) fun q1 => (if q1.1 = 0 then (x_X5_leastLeading 2 [] [some (zr 5 k0), some (zi x1), some (zi (x2 + (Int32.ofInt 1)))] q1.2) else (oC (f_X7_standAfter x1 x2 q1.2) fun q2 => (chk q2.1 4096 (if (q2.2.1 19 0 q2.1.toNatClampNeg) = 0 then (x_X5_leastLeading 2 [] [some (zr 5 k0), some (zi x1), some (zi (x2 + (Int32.ofInt 1)))] q2.2) else (some (x2, q2.2))))))))) := (zev_eq (lf_X5_leastLeading _) _ _ _ _).trans rfl
theorem k_X5_leastLeading : zLkV yX5_leastLeading cX5_leastLeading 3 (some .int) 5 1 := ⟨(tw3 (i := 178) rfl), (twp (n := 12) (List.mem_append_right _ (List.mem_of_getElem? (i := 4) rfl))), (tw1 (i := 7) rfl), (tw3 (i := 179) rfl), ⟨_, _, rfl⟩, rfl, by decide, by decide, by decide +kernel⟩
set_option maxHeartbeats 4000000 in
set_option maxRecDepth 20000 in
theorem a_X5_leastLeading {l : Launch} {D : va_G} {ad : Nat → Nat → Nat} {cA : Nat → ClassId} (hI : zInj ad) {ρ : Type} (X : ρ) : zAns l D ad cA yX5_leastLeading cX5_leastLeading 3 (some .int) 1 21 X (fun as => ∃ i as', as = zr 5 i :: as') (cI g_X5_leastLeading) := by
  intro as w Kf hv h
  obtain ⟨q, h1, h2⟩ := oC_inv h
  unfold g_X5_leastLeading at h1
  obtain ⟨tk0, k0, r, rfl, h1_1⟩ := pR_inv h1
  obtain ⟨bk0, h1_1z⟩ := zif_inv h1_1
  cases Nat.eq_of_beq_eq_true bk0
  obtain ⟨x1, r, rfl, h1_2⟩ := pI_inv h1_1z
  obtain ⟨rfl, h3⟩ := pE_inv h1_2
  exact ⟨_, _, ⟨_, _, rfl⟩, h2, trivial, zmeth (cM := cm_X5_leastLeading _) (bl := bl_X5_leastLeading) (ret := rI) hI (by decide) fl_X5 ll_X5 (lf_X5_leastLeading _) bk_X5_leastLeading (Nat.le_of_ble_eq_true rfl) hv (fun hF => (zml_cons (zcn hF ⟨Nat.le_refl _, Nat.le_refl _⟩ rfl (tw2 (i := 160) rfl) k_X7_isIn ⟨by decide, by decide⟩ (a_X7_isIn hI _)) (zml_cons (zcn hF ⟨Nat.le_refl _, Nat.le_refl _⟩ rfl (tw2 (i := 162) rfl) k_X7_standAfter ⟨by decide, by decide⟩ (a_X7_standAfter hI _)) zml_nil))) (fun hF hr hk => zrt_I hF hr hk) h3⟩
def bl_X5_markWaysOf : ZBl := [(0, none, [(.sipush 4095, 3, 0, []), (.istore_n 2, 1, 0, [])]), (4, some [true, true, true], [(.iload_n 2, 1, 0, []), (.ifCond .lt 46, 3, 51, [])]), (8, none, [(.aload_n 0, 1, 0, []), (.getfield 33, 3, 0, []), (.iload_n 2, 1, 0, []), (.aload_n 0, 1, 0, []), (.iload_n 2, 1, 0, []), (.invokevirtual 165, 3, 0, []), (.bipush (-6), 2, 0, []), (.if_icmp .ne 19, 3, 39, [])]), (23, none, [(.aload_n 0, 1, 0, []), (.iload_n 2, 1, 0, []), (.invokevirtual 128, 3, 0, []), (.ifCond .eq 15, 3, 43, [])]), (31, none, [(.iload_n 2, 1, 0, []), (.invokestatic 171, 3, 0, []), (.iload_n 1, 1, 0, []), (.if_icmp .ne 7, 3, 43, [])]), (39, none, [(.iconst 1, 1, 0, []), (.goto 4, 3, 44, [])]), (43, none, [(.iconst 0, 1, 0, [])]), (44, none, [(.bastore, 1, 0, []), (.iinc 2 (-1), 3, 0, []), (.goto (-44), 3, 4, [])]), (51, none, [(.return_, 1, 0, [])])]
set_option maxRecDepth 20000 in
theorem bk_X5_markWaysOf : zdb cX5_markWaysOf 3 bl_X5_markWaysOf = true := by decide +kernel
noncomputable def cm_X5_markWaysOf (ρ : Type) : List (Nat × Nat × ZCall ρ) := [(330, 2, cI g_X5_leastLeading), (256, 2, cI g_X5_isDeadlock), (343, 1, cI g_X7_stepsDone)]
theorem lf_X5_markWaysOf (ρ : Type) : LfM (cm_X5_markWaysOf ρ) := lfm_of (lfm_cons (lfc_I g_X5_leastLeading) (lfm_cons (lfc_I g_X5_isDeadlock) (lfm_cons (lfc_I g_X7_stepsDone) lfm_n)))
noncomputable def x_X5_markWaysOf : ZJ Wd := zev cF_X5 cL_X5 bl_X5_markWaysOf (cm_X5_markWaysOf Wd) rV
noncomputable def f_X5_markWaysOf (k0 : Nat) (x1 : Int32) (w : Wd) : Option Wd := x_X5_markWaysOf 0 [] [some (zr 5 k0), some (zi x1), none] w
noncomputable def g_X5_markWaysOf (r : List ZV) (w : Wd) : Option Wd := pR r fun tk0 k0 r => zif (Nat.beq tk0 5) (pI r fun x1 r => pE r (f_X5_markWaysOf k0 x1 w))
set_option maxRecDepth 20000 in
theorem e_X5_markWaysOf (k0 : Nat) (x1 : Int32) (w : Wd) : f_X5_markWaysOf k0 x1 w = (x_X5_markWaysOf 4 [] [some (zr 5 k0), some (zi x1), some (zi (Int32.ofInt 4095))] w) := (zev_eq (lf_X5_markWaysOf _) _ _ _ _).trans rfl
set_option maxRecDepth 20000 in
theorem e_X5_markWaysOf_4 (k0 : Nat) (x1 : Int32) (x2 : Int32) (w : Wd) : x_X5_markWaysOf 4 [] [some (zr 5 k0), some (zi x1), some (zi x2)] w = (if x2 < 0 then (some w) else (oC (f_X5_leastLeading k0 x2 w) fun q1 => (if q1.1 = (Int32.ofInt (-6)) then (oC (f_X5_isDeadlock k0 x2 q1.2) fun q2 => (if q2.1 = 0 then (chk x2 4096 (zb (Int32.ofInt 0) (x_X5_markWaysOf 4 [] [some (zr 5 k0), some (zi x1), some (zi (x2 + (Int32.ofInt (-1))))] (wI q2.2 19 0 x2.toNatClampNeg (Int32.ofInt 0))))) else (oC (f_X7_stepsDone x2 q2.2) fun q3 => (if q3.1 = x1 then (chk x2 4096 (zb (Int32.ofInt 1) (x_X5_markWaysOf 4 [] [some (zr 5 k0), some (zi x1), some (zi (x2 + (Int32.ofInt (-1))))] (wI q3.2 19 0 x2.toNatClampNeg (Int32.ofInt 1))))) else (chk x2 4096 (zb (Int32.ofInt 0) (x_X5_markWaysOf 4 [] [some (zr 5 k0), some (zi x1), some (zi (x2 + (Int32.ofInt (-1))))] (wI q3.2 19 0 x2.toNatClampNeg (Int32.ofInt 0))))))))) else (chk x2 4096 (zb (Int32.ofInt 1) (x_X5_markWaysOf 4 [] [some (zr 5 k0), some (zi x1), some (zi (x2 + (Int32.ofInt (-1))))] (wI q1.2 19 0 x2.toNatClampNeg (Int32.ofInt 1)))))))) := (zev_eq (lf_X5_markWaysOf _) _ _ _ _).trans rfl
theorem k_X5_markWaysOf : zLkV yX5_markWaysOf cX5_markWaysOf 3 none 5 1 := ⟨(tw3 (i := 174) rfl), (twp (n := 12) (List.mem_append_right _ (List.mem_of_getElem? (i := 3) rfl))), (tw1 (i := 7) rfl), (tw3 (i := 175) rfl), ⟨_, _, rfl⟩, rfl, by decide, by decide, by decide +kernel⟩
set_option maxHeartbeats 4000000 in
set_option maxRecDepth 20000 in
theorem a_X5_markWaysOf {l : Launch} {D : va_G} {ad : Nat → Nat → Nat} {cA : Nat → ClassId} (hI : zInj ad) {ρ : Type} (X : ρ) : zAns l D ad cA yX5_markWaysOf cX5_markWaysOf 3 none 4 88 X (fun as => ∃ i as', as = zr 5 i :: as') (cV g_X5_markWaysOf) := by
  intro as w Kf hv h
  obtain ⟨q, h1, h2⟩ := oC_inv h
  unfold g_X5_markWaysOf at h1
  obtain ⟨tk0, k0, r, rfl, h1_1⟩ := pR_inv h1
  obtain ⟨bk0, h1_1z⟩ := zif_inv h1_1
  cases Nat.eq_of_beq_eq_true bk0
  obtain ⟨x1, r, rfl, h1_2⟩ := pI_inv h1_1z
  obtain ⟨rfl, h3⟩ := pE_inv h1_2
  exact ⟨_, _, ⟨_, _, rfl⟩, h2, trivial, zmeth (cM := cm_X5_markWaysOf _) (bl := bl_X5_markWaysOf) (ret := rV) hI (by decide) fl_X5 ll_X5 (lf_X5_markWaysOf _) bk_X5_markWaysOf (Nat.le_of_ble_eq_true rfl) hv (fun hF => (zml_cons (zcv hF ⟨Nat.le_refl _, Nat.le_refl _⟩ rfl (tw3 (i := 176) rfl) k_X5_leastLeading ⟨by decide, by decide⟩ (a_X5_leastLeading hI _)) (zml_cons (zcv hF ⟨Nat.le_refl _, Nat.le_refl _⟩ rfl (tw2 (i := 181) rfl) k_X5_isDeadlock ⟨by decide, by decide⟩ (a_X5_isDeadlock hI _)) (zml_cons (zcn hF ⟨Nat.le_refl _, Nat.le_refl _⟩ rfl (tw3 (i := 171) rfl) k_X7_stepsDone ⟨by decide, by decide⟩ (a_X7_stepsDone hI _)) zml_nil)))) (fun hF hr hk => zrt_V hF hr hk) h3⟩
def bl_X5_leastShortestWay : ZBl := [(0, none, [(.aload_n 0, 1, 0, []), (.getfield 40, 3, 0, []), (.invokevirtual 156, 3, 0, []), (.aload_n 0, 1, 0, []), (.invokevirtual 159, 3, 0, []), (.istore_n 1, 1, 0, []), (.aload_n 0, 1, 0, []), (.iload_n 1, 1, 0, []), (.invokevirtual 162, 3, 0, []), (.iconst 0, 1, 0, []), (.istore_n 2, 1, 0, []), (.iconst 0, 1, 0, []), (.istore_n 3, 1, 0, [])]), (21, some [true, true, true, true, false], [(.iload_n 3, 1, 0, []), (.iload_n 1, 1, 0, []), (.if_icmp .ge 39, 3, 62, [])]), (26, none, [(.aload_n 0, 1, 0, []), (.iload_n 2, 1, 0, []), (.invokevirtual 165, 3, 0, []), (.istore 4, 2, 0, []), (.iload 4, 2, 0, []), (.bipush (-6), 2, 0, []), (.if_icmp .eq 19, 3, 56, [])]), (40, none, [(.aload_n 0, 1, 0, []), (.getfield 40, 3, 0, []), (.iload 4, 2, 0, []), (.invokevirtual 168, 3, 0, []), (.iload_n 2, 1, 0, []), (.iload 4, 2, 0, []), (.invokestatic 91, 3, 0, []), (.istore_n 2, 1, 0, [])]), (56, none, [(.iinc 3 1, 3, 0, []), (.goto (-38), 3, 21, [])]), (62, none, [(.aload_n 0, 1, 0, []), (.getfield 40, 3, 0, []), (.areturn, 1, 0, [])])]
set_option maxRecDepth 20000 in
theorem bk_X5_leastShortestWay : zdb cX5_leastShortestWay 5 bl_X5_leastShortestWay = true := by decide +kernel
noncomputable def cm_X5_leastShortestWay (ρ : Type) : List (Nat × Nat × ZCall ρ) := [(312, 1, cV g_X3_clear), (318, 1, cI g_X5_shortestWay), (324, 2, cV g_X5_markWaysOf), (330, 2, cI g_X5_leastLeading), (336, 2, cV g_X3_append), (183, 2, cI g_X7_standAfter)]
theorem lf_X5_leastShortestWay (ρ : Type) : LfM (cm_X5_leastShortestWay ρ) := lfm_of (lfm_cons (lfc_V g_X3_clear) (lfm_cons (lfc_I g_X5_shortestWay) (lfm_cons (lfc_V g_X5_markWaysOf) (lfm_cons (lfc_I g_X5_leastLeading) (lfm_cons (lfc_V g_X3_append) (lfm_cons (lfc_I g_X7_standAfter) lfm_n))))))
noncomputable def x_X5_leastShortestWay : ZJ ((Nat × Nat) × Wd) := zev cF_X5 cL_X5 bl_X5_leastShortestWay (cm_X5_leastShortestWay ((Nat × Nat) × Wd)) rR
noncomputable def f_X5_leastShortestWay (k0 : Nat) (w : Wd) : Option ((Nat × Nat) × Wd) := x_X5_leastShortestWay 0 [] [some (zr 5 k0), none, none, none, none] w
noncomputable def g_X5_leastShortestWay (r : List ZV) (w : Wd) : Option ((Nat × Nat) × Wd) := pR r fun tk0 k0 r => zif (Nat.beq tk0 5) (pE r (f_X5_leastShortestWay k0 w))
set_option maxRecDepth 20000 in
theorem e_X5_leastShortestWay (k0 : Nat) (w : Wd) : f_X5_leastShortestWay k0 w = (oC (f_X3_clear 12 w) fun q1 => (oC (f_X5_shortestWay k0 q1) fun q2 => (oC (f_X5_markWaysOf k0 q2.1 q2.2) fun q3 => (x_X5_leastShortestWay 21 [] [some (zr 5 k0), some (zi q2.1), some (zi (Int32.ofInt 0)), some (zi (Int32.ofInt 0)), none] q3)))) := (zev_eq (lf_X5_leastShortestWay _) _ _ _ _).trans rfl
set_option maxRecDepth 20000 in
theorem e_X5_leastShortestWay_21 (k0 : Nat) (x1 : Int32) (x2 : Int32) (x3 : Int32) (w : Wd) : x_X5_leastShortestWay 21 [] [some (zr 5 k0), some (zi x1), some (zi x2), some (zi x3), none] w = (if x1 ≤ x3 then (some ((3, 12), w)) else (oC (f_X5_leastLeading k0 x2 w) fun q1 => (if q1.1 = (Int32.ofInt (-6)) then (x_X5_leastShortestWay 21 [] [some (zr 5 k0), some (zi x1), some (zi x2), some (zi (x3 + (Int32.ofInt 1))), none] q1.2) else (oC (f_X3_append 12 q1.1 q1.2) fun q2 => (oC (f_X7_standAfter x2 q1.1 q2) fun q3 => (x_X5_leastShortestWay 21 [] [some (zr 5 k0), some (zi x1), some (zi q3.1), some (zi (x3 + (Int32.ofInt 1))), none] q3.2)))))) := (zev_eq (lf_X5_leastShortestWay _) _ _ _ _).trans rfl
theorem k_X5_leastShortestWay : zLkV yX5_leastShortestWay cX5_leastShortestWay 5 (some (.object "SleepSteps$Run")) 5 0 := ⟨(tw3 (i := 163) rfl), (tw3 (i := 164) rfl), (tw1 (i := 7) rfl), (tw3 (i := 165) rfl), ⟨_, _, rfl⟩, rfl, by decide, by decide, by decide +kernel⟩
set_option maxHeartbeats 4000000 in
set_option maxRecDepth 20000 in
theorem a_X5_leastShortestWay {l : Launch} {D : va_G} {ad : Nat → Nat → Nat} {cA : Nat → ClassId} (hI : zInj ad) {ρ : Type} (X : ρ) : zAns l D ad cA yX5_leastShortestWay cX5_leastShortestWay 5 (some (.object "SleepSteps$Run")) 5 110 X (fun as => ∃ i as', as = zr 5 i :: as') (cR g_X5_leastShortestWay) := by
  intro as w Kf hv h
  obtain ⟨q, h1, h2⟩ := oC_inv h
  obtain ⟨hbl, h2⟩ := zif_inv h2
  unfold g_X5_leastShortestWay at h1
  obtain ⟨tk0, k0, r, rfl, h1_1⟩ := pR_inv h1
  obtain ⟨bk0, h1_1z⟩ := zif_inv h1_1
  cases Nat.eq_of_beq_eq_true bk0
  obtain ⟨rfl, h3⟩ := pE_inv h1_1z
  exact ⟨_, _, ⟨_, _, rfl⟩, h2, (Nat.blt_eq.mp hbl), zmeth (cM := cm_X5_leastShortestWay _) (bl := bl_X5_leastShortestWay) (ret := rR) hI (by decide) fl_X5 ll_X5 (lf_X5_leastShortestWay _) bk_X5_leastShortestWay (Nat.le_of_ble_eq_true rfl) hv (fun hF => (zml_cons (zcv hF ⟨Nat.le_refl _, Nat.le_refl _⟩ rfl (tw3 (i := 166) rfl) k_X3_clear ⟨by decide, by decide⟩ (a_X3_clear hI _)) (zml_cons (zcv hF ⟨Nat.le_refl _, Nat.le_refl _⟩ rfl (tw3 (i := 167) rfl) k_X5_shortestWay ⟨by decide, by decide⟩ (a_X5_shortestWay hI _)) (zml_cons (zcv hF ⟨Nat.le_refl _, Nat.le_refl _⟩ rfl (tw3 (i := 172) rfl) k_X5_markWaysOf ⟨by decide, by decide⟩ (a_X5_markWaysOf hI _)) (zml_cons (zcv hF ⟨Nat.le_refl _, Nat.le_refl _⟩ rfl (tw3 (i := 176) rfl) k_X5_leastLeading ⟨by decide, by decide⟩ (a_X5_leastLeading hI _)) (zml_cons (zcv hF ⟨Nat.le_refl _, Nat.le_refl _⟩ rfl (tw3 (i := 180) rfl) k_X3_append ⟨by decide, by decide⟩ (a_X3_append hI _)) (zml_cons (zcn hF ⟨Nat.le_refl _, Nat.le_refl _⟩ rfl (tw2 (i := 162) rfl) k_X7_standAfter ⟨by decide, by decide⟩ (a_X7_standAfter hI _)) zml_nil))))))) (fun hF hr hk => zrt_R hF hr hk) h3⟩
def bl_X7_put : ZBl := [(0, none, [(.lload_n 1, 1, 0, []), (.invokestatic 72, 3, 0, []), (.istore_n 3, 1, 0, []), (.iload_n 3, 1, 0, []), (.ifCond .ne 6, 3, 12, [])]), (9, none, [(.bipush (-2), 2, 0, []), (.ireturn, 1, 0, [])]), (12, none, [(.aload_n 0, 1, 0, []), (.getfield 12, 3, 0, []), (.invokevirtual 76, 3, 0, []), (.iload_n 3, 1, 0, []), (.iadd, 1, 0, []), (.bipush 40, 2, 0, []), (.if_icmp .le 6, 3, 29, [])]), (26, none, [(.bipush (-4), 2, 0, []), (.ireturn, 1, 0, [])]), (29, none, [(.aload_n 0, 1, 0, []), (.getfield 12, 3, 0, []), (.lload_n 1, 1, 0, []), (.iload_n 3, 1, 0, []), (.invokevirtual 80, 3, 0, []), (.aload_n 0, 1, 0, []), (.getfield 12, 3, 0, []), (.invokevirtual 76, 3, 0, []), (.ireturn, 1, 0, [])])]
set_option maxRecDepth 20000 in
theorem bk_X7_put : zdb cX7_put 4 bl_X7_put = true := by decide +kernel
noncomputable def cm_X7_put (ρ : Type) : List (Nat × Nat × ZCall ρ) := [(145, 1, cI g_X1_charactersIn), (152, 1, cI g_X1_length), (160, 3, cV g_X1_append)]
theorem lf_X7_put (ρ : Type) : LfM (cm_X7_put ρ) := lfm_of (lfm_cons (lfc_I g_X1_charactersIn) (lfm_cons (lfc_I g_X1_length) (lfm_cons (lfc_V g_X1_append) lfm_n)))
noncomputable def x_X7_put : ZJ (Int32 × Wd) := zev cF_X7 cL_X7 bl_X7_put (cm_X7_put (Int32 × Wd)) rI
noncomputable def f_X7_put (k0 : Nat) (y1 : Int64) (w : Wd) : Option (Int32 × Wd) := x_X7_put 0 [] [some (zr 7 k0), some (zl y1), none, none] w
noncomputable def g_X7_put (r : List ZV) (w : Wd) : Option (Int32 × Wd) := pR r fun tk0 k0 r => zif (Nat.beq tk0 7) (pL r fun y1 r => pE r (f_X7_put k0 y1 w))
set_option maxRecDepth 20000 in
theorem e_X7_put (k0 : Nat) (y1 : Int64) (w : Wd) : f_X7_put k0 y1 w = (oC (f_X1_charactersIn y1 w) fun q1 => (if q1.1 = 0 then (some ((Int32.ofInt (-2)), q1.2)) else (oC (f_X1_length 0 q1.2) fun q2 => (if (q2.1 + q1.1) ≤ (Int32.ofInt 40) then (oC (f_X1_append 0 y1 q1.1 q2.2) fun q3 => (oC (f_X1_length 0 q3) fun q4 => (some (q4.1, q4.2)))) else (some ((Int32.ofInt (-4)), q2.2)))))) := (zev_eq (lf_X7_put _) _ _ _ _).trans rfl
theorem k_X7_put : zLkV yX7_put cX7_put 4 (some .int) 7 1 := ⟨(tw3 (i := 112) rfl), (tw3 (i := 113) rfl), (tw1 (i := 1) rfl), (tw3 (i := 114) rfl), ⟨_, _, rfl⟩, rfl, by decide, by decide, by decide +kernel⟩
set_option maxHeartbeats 4000000 in
set_option maxRecDepth 20000 in
theorem a_X7_put {l : Launch} {D : va_G} {ad : Nat → Nat → Nat} {cA : Nat → ClassId} (hI : zInj ad) {ρ : Type} (X : ρ) : zAns l D ad cA yX7_put cX7_put 4 (some .int) 2 46 X (fun as => ∃ i as', as = zr 7 i :: as') (cI g_X7_put) := by
  intro as w Kf hv h
  obtain ⟨q, h1, h2⟩ := oC_inv h
  unfold g_X7_put at h1
  obtain ⟨tk0, k0, r, rfl, h1_1⟩ := pR_inv h1
  obtain ⟨bk0, h1_1z⟩ := zif_inv h1_1
  cases Nat.eq_of_beq_eq_true bk0
  obtain ⟨y1, r, rfl, h1_2⟩ := pL_inv h1_1z
  obtain ⟨rfl, h3⟩ := pE_inv h1_2
  exact ⟨_, _, ⟨_, _, rfl⟩, h2, trivial, zmeth (cM := cm_X7_put _) (bl := bl_X7_put) (ret := rI) hI (by decide) fl_X7 ll_X7 (lf_X7_put _) bk_X7_put (Nat.le_of_ble_eq_true rfl) hv (fun hF => (zml_cons (zcs hF ⟨Nat.le_refl _, Nat.le_refl _⟩ rfl (tw3 (i := 115) rfl) k_X1_charactersIn ⟨by decide, by decide⟩ (a_X1_charactersIn hI _)) (zml_cons (zcv hF ⟨Nat.le_refl _, Nat.le_refl _⟩ rfl (tw2 (i := 88) rfl) k_X1_length ⟨by decide, by decide⟩ (a_X1_length hI _)) (zml_cons (zcv hF ⟨Nat.le_refl _, Nat.le_refl _⟩ rfl (tw3 (i := 122) rfl) k_X1_append ⟨by decide, by decide⟩ (a_X1_append hI _)) zml_nil)))) (fun hF hr hk => zrt_I hF hr hk) h3⟩
def bl_X7_wipe : ZBl := [(0, none, [(.aload_n 0, 1, 0, []), (.getfield 12, 3, 0, []), (.invokevirtual 76, 3, 0, []), (.istore_n 1, 1, 0, []), (.aload_n 0, 1, 0, []), (.getfield 12, 3, 0, []), (.invokevirtual 84, 3, 0, []), (.iload_n 1, 1, 0, []), (.ireturn, 1, 0, [])])]
set_option maxRecDepth 20000 in
theorem bk_X7_wipe : zdb cX7_wipe 2 bl_X7_wipe = true := by decide +kernel
noncomputable def cm_X7_wipe (ρ : Type) : List (Nat × Nat × ZCall ρ) := [(152, 1, cI g_X1_length), (168, 1, cV g_X1_clear)]
theorem lf_X7_wipe (ρ : Type) : LfM (cm_X7_wipe ρ) := lfm_of (lfm_cons (lfc_I g_X1_length) (lfm_cons (lfc_V g_X1_clear) lfm_n))
noncomputable def x_X7_wipe : ZJ (Int32 × Wd) := zev cF_X7 cL_X7 bl_X7_wipe (cm_X7_wipe (Int32 × Wd)) rI
noncomputable def f_X7_wipe (k0 : Nat) (w : Wd) : Option (Int32 × Wd) := x_X7_wipe 0 [] [some (zr 7 k0), none] w
noncomputable def g_X7_wipe (r : List ZV) (w : Wd) : Option (Int32 × Wd) := pR r fun tk0 k0 r => zif (Nat.beq tk0 7) (pE r (f_X7_wipe k0 w))
set_option maxRecDepth 20000 in
theorem e_X7_wipe (k0 : Nat) (w : Wd) : f_X7_wipe k0 w = (oC (f_X1_length 0 w) fun q1 => (oC (f_X1_clear 0 q1.2) fun q2 => (some (q1.1, q2)))) := (zev_eq (lf_X7_wipe _) _ _ _ _).trans rfl
theorem k_X7_wipe : zLkV yX7_wipe cX7_wipe 2 (some .int) 7 0 := ⟨(tw3 (i := 198) rfl), (tw3 (i := 199) rfl), (tw1 (i := 1) rfl), (tw3 (i := 200) rfl), ⟨_, _, rfl⟩, rfl, by decide, by decide, by decide +kernel⟩
set_option maxHeartbeats 4000000 in
set_option maxRecDepth 20000 in
theorem a_X7_wipe {l : Launch} {D : va_G} {ad : Nat → Nat → Nat} {cA : Nat → ClassId} (hI : zInj ad) {ρ : Type} (X : ρ) : zAns l D ad cA yX7_wipe cX7_wipe 2 (some .int) 1 20 X (fun as => ∃ i as', as = zr 7 i :: as') (cI g_X7_wipe) := by
  intro as w Kf hv h
  obtain ⟨q, h1, h2⟩ := oC_inv h
  unfold g_X7_wipe at h1
  obtain ⟨tk0, k0, r, rfl, h1_1⟩ := pR_inv h1
  obtain ⟨bk0, h1_1z⟩ := zif_inv h1_1
  cases Nat.eq_of_beq_eq_true bk0
  obtain ⟨rfl, h3⟩ := pE_inv h1_1z
  exact ⟨_, _, ⟨_, _, rfl⟩, h2, trivial, zmeth (cM := cm_X7_wipe _) (bl := bl_X7_wipe) (ret := rI) hI (by decide) fl_X7 ll_X7 (lf_X7_wipe _) bk_X7_wipe (Nat.le_of_ble_eq_true rfl) hv (fun hF => (zml_cons (zcv hF ⟨Nat.le_refl _, Nat.le_refl _⟩ rfl (tw2 (i := 88) rfl) k_X1_length ⟨by decide, by decide⟩ (a_X1_length hI _)) (zml_cons (zcv hF ⟨Nat.le_refl _, Nat.le_refl _⟩ rfl (tw2 (i := 71) rfl) k_X1_clear ⟨by decide, by decide⟩ (a_X1_clear hI _)) zml_nil))) (fun hF hr hk => zrt_I hF hr hk) h3⟩
def bl_X7_fault : ZBl := [(0, none, [(.iload_n 1, 1, 0, []), (.ifCond .ne 11, 3, 12, [])]), (4, none, [(.aload_n 0, 1, 0, []), (.getfield 12, 3, 0, []), (.invokevirtual 87, 3, 0, []), (.ireturn, 1, 0, [])]), (12, none, [(.iload_n 1, 1, 0, []), (.iconst 1, 1, 0, []), (.if_icmp .ne 11, 3, 25, [])]), (17, none, [(.aload_n 0, 1, 0, []), (.getfield 12, 3, 0, []), (.invokevirtual 90, 3, 0, []), (.ireturn, 1, 0, [])]), (25, none, [(.bipush (-2), 2, 0, []), (.ireturn, 1, 0, [])])]
set_option maxRecDepth 20000 in
theorem bk_X7_fault : zdb cX7_fault 2 bl_X7_fault = true := by decide +kernel
noncomputable def cm_X7_fault (ρ : Type) : List (Nat × Nat × ZCall ρ) := [(174, 1, cI g_X1_faultAsProgram), (180, 1, cI g_X1_faultAsRun)]
theorem lf_X7_fault (ρ : Type) : LfM (cm_X7_fault ρ) := lfm_of (lfm_cons (lfc_I g_X1_faultAsProgram) (lfm_cons (lfc_I g_X1_faultAsRun) lfm_n))
noncomputable def x_X7_fault : ZJ (Int32 × Wd) := zev cF_X7 cL_X7 bl_X7_fault (cm_X7_fault (Int32 × Wd)) rI
noncomputable def f_X7_fault (k0 : Nat) (x1 : Int32) (w : Wd) : Option (Int32 × Wd) := x_X7_fault 0 [] [some (zr 7 k0), some (zi x1)] w
noncomputable def g_X7_fault (r : List ZV) (w : Wd) : Option (Int32 × Wd) := pR r fun tk0 k0 r => zif (Nat.beq tk0 7) (pI r fun x1 r => pE r (f_X7_fault k0 x1 w))
set_option maxRecDepth 20000 in
theorem e_X7_fault (k0 : Nat) (x1 : Int32) (w : Wd) : f_X7_fault k0 x1 w = (if x1 = 0 then (oC (f_X1_faultAsProgram 0 w) fun q2 => (some (q2.1, q2.2))) else (if x1 = (Int32.ofInt 1) then (oC (f_X1_faultAsRun 0 w) fun q1 => (some (q1.1, q1.2))) else (some ((Int32.ofInt (-2)), w)))) := (zev_eq (lf_X7_fault _) _ _ _ _).trans rfl
theorem k_X7_fault : zLkV yX7_fault cX7_fault 2 (some .int) 7 1 := ⟨(tw1 (i := 208) rfl), (tw1 (i := 209) rfl), (tw1 (i := 1) rfl), (tw1 (i := 210) rfl), ⟨_, _, rfl⟩, rfl, by decide, by decide, by decide +kernel⟩
set_option maxHeartbeats 4000000 in
set_option maxRecDepth 20000 in
theorem a_X7_fault {l : Launch} {D : va_G} {ad : Nat → Nat → Nat} {cA : Nat → ClassId} (hI : zInj ad) {ρ : Type} (X : ρ) : zAns l D ad cA yX7_fault cX7_fault 2 (some .int) 3 64 X (fun as => ∃ i as', as = zr 7 i :: as') (cI g_X7_fault) := by
  intro as w Kf hv h
  obtain ⟨q, h1, h2⟩ := oC_inv h
  unfold g_X7_fault at h1
  obtain ⟨tk0, k0, r, rfl, h1_1⟩ := pR_inv h1
  obtain ⟨bk0, h1_1z⟩ := zif_inv h1_1
  cases Nat.eq_of_beq_eq_true bk0
  obtain ⟨x1, r, rfl, h1_2⟩ := pI_inv h1_1z
  obtain ⟨rfl, h3⟩ := pE_inv h1_2
  exact ⟨_, _, ⟨_, _, rfl⟩, h2, trivial, zmeth (cM := cm_X7_fault _) (bl := bl_X7_fault) (ret := rI) hI (by decide) fl_X7 ll_X7 (lf_X7_fault _) bk_X7_fault (Nat.le_of_ble_eq_true rfl) hv (fun hF => (zml_cons (zcv hF ⟨Nat.le_refl _, Nat.le_refl _⟩ rfl (tw1 (i := 211) rfl) k_X1_faultAsProgram ⟨by decide, by decide⟩ (a_X1_faultAsProgram hI _)) (zml_cons (zcv hF ⟨Nat.le_refl _, Nat.le_refl _⟩ rfl (tw1 (i := 227) rfl) k_X1_faultAsRun ⟨by decide, by decide⟩ (a_X1_faultAsRun hI _)) zml_nil))) (fun hF hr hk => zrt_I hF hr hk) h3⟩
