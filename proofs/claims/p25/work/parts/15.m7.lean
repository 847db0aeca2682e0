def bl_X7_chain : ZBl := [(0, none, [(.aload_n 0, 1, 0, []), (.getfield 55, 3, 0, []), (.aload_n 0, 1, 0, []), (.getfield 19, 3, 0, []), (.getfield 97, 3, 0, []), (.aload_n 0, 1, 0, []), (.getfield 19, 3, 0, []), (.getfield 141, 3, 0, []), (.invokevirtual 226, 3, 0, []), (.aload_n 0, 1, 0, []), (.getfield 55, 3, 0, []), (.invokevirtual 235, 3, 0, []), (.ireturn, 1, 0, [])])]
set_option maxRecDepth 20000 in
theorem bk_X7_chain : zdb cX7_chain 1 bl_X7_chain = true := by decide +kernel
noncomputable def cm_X7_chain (ρ : Type) : List (Nat × Nat × ZCall ρ) := [(452, 3, cV g_X4_lookAt), (470, 1, cI g_X4_longestChain)]
theorem lf_X7_chain (ρ : Type) : LfM (cm_X7_chain ρ) := lfm_of (lfm_cons (lfc_V g_X4_lookAt) (lfm_cons (lfc_I g_X4_longestChain) lfm_n))
noncomputable def x_X7_chain : ZJ (Int32 × Wd) := zev cF_X7 cL_X7 bl_X7_chain (cm_X7_chain (Int32 × Wd)) rI
noncomputable def f_X7_chain (k0 : Nat) (w : Wd) : Option (Int32 × Wd) := x_X7_chain 0 [] [some (zr 7 k0)] w
noncomputable def g_X7_chain (r : List ZV) (w : Wd) : Option (Int32 × Wd) := pR r fun tk0 k0 r => zif (Nat.beq tk0 7) (pE r (f_X7_chain k0 w))
set_option maxRecDepth 20000 in
theorem e_X7_chain (k0 : Nat) (w : Wd) : f_X7_chain k0 w = (oC (f_X4_lookAt 0 0 0 w) fun q1 => (oC (f_X4_longestChain 0 q1) fun q2 => (some (q2.1, q2.2)))) := (zev_eq (lf_X7_chain _) _ _ _ _).trans rfl
theorem k_X7_chain : zLkV yX7_chain cX7_chain 1 (some .int) 7 0 := ⟨(tw3 (i := 61) rfl), (tw3 (i := 62) rfl), (tw1 (i := 1) rfl), (tw3 (i := 63) rfl), ⟨_, _, rfl⟩, rfl, by decide, by decide, by decide +kernel⟩
set_option maxHeartbeats 4000000 in
set_option maxRecDepth 20000 in
theorem a_X7_chain {l : Launch} {D : va_G} {ad : Nat → Nat → Nat} {cA : Nat → ClassId} (hI : zInj ad) {ρ : Type} (X : ρ) : zAns l D ad cA yX7_chain cX7_chain 1 (some .int) 5 118 X (fun as => ∃ i as', as = zr 7 i :: as') (cI g_X7_chain) := by
  intro as w Kf hv h
  obtain ⟨q, h1, h2⟩ := oC_inv h
  unfold g_X7_chain at h1
  obtain ⟨tk0, k0, r, rfl, h1_1⟩ := pR_inv h1
  obtain ⟨bk0, h1_1z⟩ := zif_inv h1_1
  cases Nat.eq_of_beq_eq_true bk0
  obtain ⟨rfl, h3⟩ := pE_inv h1_1z
  exact ⟨_, _, ⟨_, _, rfl⟩, h2, trivial, zmeth (cM := cm_X7_chain _) (bl := bl_X7_chain) (ret := rI) hI (by decide) fl_X7 ll_X7 (lf_X7_chain _) bk_X7_chain (Nat.le_of_ble_eq_true rfl) hv (fun hF => (zml_cons (zcv hF ⟨Nat.le_refl _, Nat.le_refl _⟩ rfl (tw3 (i := 19) rfl) k_X4_lookAt ⟨by decide, by decide⟩ (a_X4_lookAt hI _)) (zml_cons (zcv hF ⟨Nat.le_refl _, Nat.le_refl _⟩ rfl (tw3 (i := 64) rfl) k_X4_longestChain ⟨by decide, by decide⟩ (a_X4_longestChain hI _)) zml_nil))) (fun hF hr hk => zrt_I hF hr hk) h3⟩
def bl_X7_lastWrite : ZBl := [(0, none, [(.iload_n 1, 1, 0, []), (.invokestatic 219, 3, 0, []), (.ifCond .ne 5, 3, 9, [])]), (7, none, [(.iconst (-1), 1, 0, []), (.ireturn, 1, 0, [])]), (9, none, [(.iload_n 2, 1, 0, []), (.ifCond .eq 11, 3, 21, [])]), (13, none, [(.iload_n 2, 1, 0, []), (.iconst 1, 1, 0, []), (.if_icmp .eq 6, 3, 21, [])]), (18, none, [(.bipush (-2), 2, 0, []), (.ireturn, 1, 0, [])]), (21, none, [(.iconst 1, 1, 0, []), (.iload_n 1, 1, 0, []), (.invokestatic 238, 3, 0, []), (.istore_n 3, 1, 0, []), (.bipush (-6), 2, 0, []), (.istore 4, 2, 0, []), (.bipush (-6), 2, 0, []), (.istore 5, 2, 0, []), (.iconst 0, 1, 0, []), (.istore 6, 2, 0, []), (.iconst 0, 1, 0, []), (.istore 7, 2, 0, [])]), (41, some [true, false, true, true, true, true, true, true, false], [(.iload 7, 2, 0, []), (.aload_n 0, 1, 0, []), (.getfield 19, 3, 0, []), (.getfield 141, 3, 0, []), (.invokevirtual 147, 3, 0, []), (.if_icmp .ge 68, 3, 121, [])]), (56, none, [(.aload_n 0, 1, 0, []), (.getfield 19, 3, 0, []), (.getfield 141, 3, 0, []), (.iload 7, 2, 0, []), (.invokevirtual 216, 3, 0, []), (.istore 8, 2, 0, []), (.aload_n 0, 1, 0, []), (.getfield 19, 3, 0, []), (.getfield 97, 3, 0, []), (.iload 8, 2, 0, []), (.iload 6, 2, 0, []), (.iload 8, 2, 0, []), (.invokestatic 179, 3, 0, []), (.invokevirtual 118, 3, 0, []), (.iload_n 3, 1, 0, []), (.if_icmp .ne 16, 3, 106, [])]), (93, none, [(.iload 8, 2, 0, []), (.istore 4, 2, 0, []), (.iload 6, 2, 0, []), (.iload 8, 2, 0, []), (.invokestatic 179, 3, 0, []), (.istore 5, 2, 0, [])]), (106, none, [(.iload 6, 2, 0, []), (.iload 8, 2, 0, []), (.invokestatic 241, 3, 0, []), (.istore 6, 2, 0, []), (.iinc 7 1, 3, 0, []), (.goto (-77), 3, 41, [])]), (121, none, [(.iload_n 2, 1, 0, []), (.ifCond .ne 8, 3, 130, [])]), (125, none, [(.iload 4, 2, 0, []), (.goto 5, 3, 132, [])]), (130, none, [(.iload 5, 2, 0, [])]), (132, none, [(.ireturn, 1, 0, [])])]
set_option maxRecDepth 20000 in
theorem bk_X7_lastWrite : zdb cX7_lastWrite 9 bl_X7_lastWrite = true := by decide +kernel
noncomputable def cm_X7_lastWrite (ρ : Type) : List (Nat × Nat × ZCall ρ) := [(439, 1, cI g_X7_isName), (477, 2, cI g_X7_codeOf), (294, 1, cI g_X3_length), (432, 2, cI g_X3_threadAt), (359, 2, cI g_X7_doneBy), (236, 3, cI g_X2_stepOf), (483, 2, cI g_X7_standAfter)]
theorem lf_X7_lastWrite (ρ : Type) : LfM (cm_X7_lastWrite ρ) := lfm_of (lfm_cons (lfc_I g_X7_isName) (lfm_cons (lfc_I g_X7_codeOf) (lfm_cons (lfc_I g_X3_length) (lfm_cons (lfc_I g_X3_threadAt) (lfm_cons (lfc_I g_X7_doneBy) (lfm_cons (lfc_I g_X2_stepOf) (lfm_cons (lfc_I g_X7_standAfter) lfm_n)))))))
noncomputable def x_X7_lastWrite : ZJ (Int32 × Wd) := zev cF_X7 cL_X7 bl_X7_lastWrite (cm_X7_lastWrite (Int32 × Wd)) rI
noncomputable def f_X7_lastWrite (k0 : Nat) (x1 : Int32) (x2 : Int32) (w : Wd) : Option (Int32 × Wd) := x_X7_lastWrite 0 [] [some (zr 7 k0), some (zi x1), some (zi x2), none, none, none, none, none, none] w
noncomputable def g_X7_lastWrite (r : List ZV) (w : Wd) : Option (Int32 × Wd) := pR r fun tk0 k0 r => zif (Nat.beq tk0 7) (pI r fun x1 r => pI r fun x2 r => pE r (f_X7_lastWrite k0 x1 x2 w))
set_option maxRecDepth 20000 in
theorem e_X7_lastWrite (k0 : Nat) (x1 : Int32) (x2 : Int32) (w : Wd) : f_X7_lastWrite k0 x1 x2 w = (oC (f_X7_isName x1 w) fun q1 => (if q1.1 = 0 then (some ((Int32.ofInt (-1)), q1.2)) else (if x2 = 0 then (oC (f_X7_codeOf (Int32.ofInt 1) x1 q1.2) fun q2 => (x_X7_lastWrite 41 [] [some (zr 7 k0), none, some (zi x2), some (zi q2.1), some (zi (Int32.ofInt (-6))), some (zi (Int32.ofInt (-6))), some (zi (Int32.ofInt 0)), some (zi (Int32.ofInt 0)), none] q2.2)) else (if x2 = (Int32.ofInt 1) then (oC (f_X7_codeOf (Int32.ofInt 1) x1 q1.2) fun q3 => (x_X7_lastWrite 41 [] [some (zr 7 k0), none, some (zi x2), some (zi q3.1), some (zi (Int32.ofInt (-6))), some (zi (Int32.ofInt (-6))), some (zi (Int32.ofInt 0)), some (zi (Int32.ofInt 0)), none] q3.2)) else (some ((Int32.ofInt (-2)), q1.2)))))) := (zev_eq (lf_X7_lastWrite _) _ _ _ _).trans rfl
set_option maxRecDepth 20000 in
theorem e_X7_lastWrite_41 (k0 : Nat) (x2 : Int32) (x3 : Int32) (x4 : Int32) (x5 : Int32) (x6 : Int32) (x7 : Int32) (w : Wd) : x_X7_lastWrite 41 [] [some (zr 7 k0), none, some (zi x2), some (zi x3), some (zi x4), some (zi x5), some (zi x6), some (zi x7), none] w = (oC (f_X3_length 0 w) fun q1 => (if q1.1 ≤ x7 then (if x2 = 0 then (some (x4, q1.2)) else (some (x5, q1.2))) else (oC (f_X3_threadAt 0 x7 q1.2) fun q2 => (oC (f_X7_doneBy x6 q2.1 q2.2) fun q3 => (oC (f_X2_stepOf 0 q2.1 q3.1 q3.2) fun q4 => (if q4.1 = x3 then (oC (f_X7_doneBy x6 q2.1 q4.2) fun q6 => (oC (f_X7_standAfter x6 q2.1 q6.2) fun q7 => (x_X7_lastWrite 41 [] [some (zr 7 k0), none, some (zi x2), some (zi x3), some (zi q2.1), some (zi q6.1), some (zi q7.1), some (zi (x7 + (Int32.ofInt 1))), none] q7.2))) else (oC (f_X7_standAfter x6 q2.1 q4.2) fun q5 => (x_X7_lastWrite 41 [] [some (zr 7 k0), none, some (zi x2), some (zi x3), some (zi x4), some (zi x5), some (zi q5.1), some (zi (x7 + (Int32.ofInt 1))), none] q5.2)))))))) := (zev_eq (lf_X7_lastWrite _) _ _ _ _).trans rfl
theorem k_X7_lastWrite : zLkV yX7_lastWrite cX7_lastWrite 9 (some .int) 7 2 := ⟨(tw3 (i := 218) rfl), (tw3 (i := 219) rfl), (tw1 (i := 1) rfl), (tw3 (i := 220) rfl), ⟨_, _, rfl⟩, rfl, by decide, by decide, by decide +kernel⟩
set_option maxHeartbeats 4000000 in
set_option maxRecDepth 20000 in
theorem a_X7_lastWrite {l : Launch} {D : va_G} {ad : Nat → Nat → Nat} {cA : Nat → ClassId} (hI : zInj ad) {ρ : Type} (X : ρ) : zAns l D ad cA yX7_lastWrite cX7_lastWrite 9 (some .int) 1 22 X (fun as => ∃ i as', as = zr 7 i :: as') (cI g_X7_lastWrite) := by
  intro as w Kf hv h
  obtain ⟨q, h1, h2⟩ := oC_inv h
  unfold g_X7_lastWrite at h1
  obtain ⟨tk0, k0, r, rfl, h1_1⟩ := pR_inv h1
  obtain ⟨bk0, h1_1z⟩ := zif_inv h1_1
  cases Nat.eq_of_beq_eq_true bk0
  obtain ⟨x1, r, rfl, h1_2⟩ := pI_inv h1_1z
  obtain ⟨x2, r, rfl, h1_3⟩ := pI_inv h1_2
  obtain ⟨rfl, h3⟩ := pE_inv h1_3
  exact ⟨_, _, ⟨_, _, rfl⟩, h2, trivial, zmeth (cM := cm_X7_lastWrite _) (bl := bl_X7_lastWrite) (ret := rI) hI (by decide) fl_X7 ll_X7 (lf_X7_lastWrite _) bk_X7_lastWrite (Nat.le_of_ble_eq_true rfl) hv (fun hF => (zml_cons (zcs hF ⟨Nat.le_refl _, Nat.le_refl _⟩ rfl (tw3 (i := 186) rfl) k_X7_isName ⟨by decide, by decide⟩ (a_X7_isName hI _)) (zml_cons (zcs hF ⟨Nat.le_refl _, Nat.le_refl _⟩ rfl (tw3 (i := 221) rfl) k_X7_codeOf ⟨by decide, by decide⟩ (a_X7_codeOf hI _)) (zml_cons (zcv hF ⟨Nat.le_refl _, Nat.le_refl _⟩ rfl (tw2 (i := 93) rfl) k_X3_length ⟨by decide, by decide⟩ (a_X3_length hI _)) (zml_cons (zcv hF ⟨Nat.le_refl _, Nat.le_refl _⟩ rfl (tw3 (i := 181) rfl) k_X3_threadAt ⟨by decide, by decide⟩ (a_X3_threadAt hI _)) (zml_cons (zcs hF ⟨Nat.le_refl _, Nat.le_refl _⟩ rfl (tw3 (i := 149) rfl) k_X7_doneBy ⟨by decide, by decide⟩ (a_X7_doneBy hI _)) (zml_cons (zcv hF ⟨Nat.le_refl _, Nat.le_refl _⟩ rfl (tw3 (i := 136) rfl) k_X2_stepOf ⟨by decide, by decide⟩ (a_X2_stepOf hI _)) (zml_cons (zcs hF ⟨Nat.le_refl _, Nat.le_refl _⟩ rfl (tw3 (i := 222) rfl) k_X7_standAfter ⟨by decide, by decide⟩ (a_X7_standAfter hI _)) zml_nil)))))))) (fun hF hr hk => zrt_I hF hr hk) h3⟩
def bl_X7_alikeRuns : ZBl := [(0, none, [(.aload_n 0, 1, 0, []), (.getfield 55, 3, 0, []), (.aload_n 0, 1, 0, []), (.getfield 19, 3, 0, []), (.getfield 97, 3, 0, []), (.aload_n 0, 1, 0, []), (.getfield 19, 3, 0, []), (.getfield 141, 3, 0, []), (.invokevirtual 226, 3, 0, []), (.aload_n 0, 1, 0, []), (.getfield 55, 3, 0, []), (.invokevirtual 244, 3, 0, []), (.lreturn, 1, 0, [])])]
set_option maxRecDepth 20000 in
theorem bk_X7_alikeRuns : zdb cX7_alikeRuns 1 bl_X7_alikeRuns = true := by decide +kernel
noncomputable def cm_X7_alikeRuns (ρ : Type) : List (Nat × Nat × ZCall ρ) := [(452, 3, cV g_X4_lookAt), (488, 1, cJ g_X4_linearOrders)]
theorem lf_X7_alikeRuns (ρ : Type) : LfM (cm_X7_alikeRuns ρ) := lfm_of (lfm_cons (lfc_V g_X4_lookAt) (lfm_cons (lfc_J g_X4_linearOrders) lfm_n))
noncomputable def x_X7_alikeRuns : ZJ (Int64 × Wd) := zev cF_X7 cL_X7 bl_X7_alikeRuns (cm_X7_alikeRuns (Int64 × Wd)) rJ
noncomputable def f_X7_alikeRuns (k0 : Nat) (w : Wd) : Option (Int64 × Wd) := x_X7_alikeRuns 0 [] [some (zr 7 k0)] w
noncomputable def g_X7_alikeRuns (r : List ZV) (w : Wd) : Option (Int64 × Wd) := pR r fun tk0 k0 r => zif (Nat.beq tk0 7) (pE r (f_X7_alikeRuns k0 w))
set_option maxRecDepth 20000 in
theorem e_X7_alikeRuns (k0 : Nat) (w : Wd) : f_X7_alikeRuns k0 w = (oC (f_X4_lookAt 0 0 0 w) fun q1 => (oC (f_X4_linearOrders 0 q1) fun q2 => (some (q2.1, q2.2)))) := (zev_eq (lf_X7_alikeRuns _) _ _ _ _).trans rfl
theorem k_X7_alikeRuns : zLkV yX7_alikeRuns cX7_alikeRuns 1 (some .long) 7 0 := ⟨(tw3 (i := 69) rfl), (tw3 (i := 70) rfl), (tw1 (i := 1) rfl), (tw3 (i := 71) rfl), ⟨_, _, rfl⟩, rfl, by decide, by decide, by decide +kernel⟩
set_option maxHeartbeats 4000000 in
set_option maxRecDepth 20000 in
theorem a_X7_alikeRuns {l : Launch} {D : va_G} {ad : Nat → Nat → Nat} {cA : Nat → ClassId} (hI : zInj ad) {ρ : Type} (X : ρ) : zAns l D ad cA yX7_alikeRuns cX7_alikeRuns 1 (some .long) 5 118 X (fun as => ∃ i as', as = zr 7 i :: as') (cJ g_X7_alikeRuns) := by
  intro as w Kf hv h
  obtain ⟨q, h1, h2⟩ := oC_inv h
  unfold g_X7_alikeRuns at h1
  obtain ⟨tk0, k0, r, rfl, h1_1⟩ := pR_inv h1
  obtain ⟨bk0, h1_1z⟩ := zif_inv h1_1
  cases Nat.eq_of_beq_eq_true bk0
  obtain ⟨rfl, h3⟩ := pE_inv h1_1z
  exact ⟨_, _, ⟨_, _, rfl⟩, h2, trivial, zmeth (cM := cm_X7_alikeRuns _) (bl := bl_X7_alikeRuns) (ret := rJ) hI (by decide) fl_X7 ll_X7 (lf_X7_alikeRuns _) bk_X7_alikeRuns (Nat.le_of_ble_eq_true rfl) hv (fun hF => (zml_cons (zcv hF ⟨Nat.le_refl _, Nat.le_refl _⟩ rfl (tw3 (i := 19) rfl) k_X4_lookAt ⟨by decide, by decide⟩ (a_X4_lookAt hI _)) (zml_cons (zcv hF ⟨Nat.le_refl _, Nat.le_refl _⟩ rfl (tw3 (i := 72) rfl) k_X4_linearOrders ⟨by decide, by decide⟩ (a_X4_linearOrders hI _)) zml_nil))) (fun hF hr hk => zrt_J hF hr hk) h3⟩
def bl_X7_undo : ZBl := [(0, none, [(.aload_n 0, 1, 0, []), (.getfield 26, 3, 0, []), (.invokevirtual 161, 3, 0, []), (.ifCond .ne 6, 3, 13, [])]), (10, none, [(.bipush (-5), 2, 0, []), (.ireturn, 1, 0, [])]), (13, none, [(.aload_n 0, 1, 0, []), (.getfield 26, 3, 0, []), (.aload_n 0, 1, 0, []), (.getfield 19, 3, 0, []), (.invokevirtual 247, 3, 0, []), (.aload_n 0, 1, 0, []), (.getfield 26, 3, 0, []), (.invokevirtual 161, 3, 0, []), (.ireturn, 1, 0, [])])]
set_option maxRecDepth 20000 in
theorem bk_X7_undo : zdb cX7_undo 1 bl_X7_undo = true := by decide +kernel
noncomputable def cm_X7_undo (ρ : Type) : List (Nat × Nat × ZCall ρ) := [(322, 1, cI g_X0_size), (494, 2, cV g_X0_takeBackInto)]
theorem lf_X7_undo (ρ : Type) : LfM (cm_X7_undo ρ) := lfm_of (lfm_cons (lfc_I g_X0_size) (lfm_cons (lfc_V g_X0_takeBackInto) lfm_n))
noncomputable def x_X7_undo : ZJ (Int32 × Wd) := zev cF_X7 cL_X7 bl_X7_undo (cm_X7_undo (Int32 × Wd)) rI
noncomputable def f_X7_undo (k0 : Nat) (w : Wd) : Option (Int32 × Wd) := x_X7_undo 0 [] [some (zr 7 k0)] w
noncomputable def g_X7_undo (r : List ZV) (w : Wd) : Option (Int32 × Wd) := pR r fun tk0 k0 r => zif (Nat.beq tk0 7) (pE r (f_X7_undo k0 w))
set_option maxRecDepth 20000 in
theorem e_X7_undo (k0 : Nat) (w : Wd) : f_X7_undo k0 w = (oC (f_X0_size 0 w) fun q1 => (if q1.1 = 0 then (some ((Int32.ofInt (-5)), q1.2)) else (oC (f_X0_takeBackInto 0 0 q1.2) fun q2 => (oC (f_X0_size 0 q2) fun q3 => (some (q3.1, q3.2)))))) := (zev_eq (lf_X7_undo _) _ _ _ _).trans rfl
theorem k_X7_undo : zLkV yX7_undo cX7_undo 1 (some .int) 7 0 := ⟨(tw3 (i := 78) rfl), (tw3 (i := 79) rfl), (tw1 (i := 1) rfl), (tw3 (i := 80) rfl), ⟨_, _, rfl⟩, rfl, by decide, by decide, by decide +kernel⟩
set_option maxHeartbeats 4000000 in
set_option maxRecDepth 20000 in
theorem a_X7_undo {l : Launch} {D : va_G} {ad : Nat → Nat → Nat} {cA : Nat → ClassId} (hI : zInj ad) {ρ : Type} (X : ρ) : zAns l D ad cA yX7_undo cX7_undo 1 (some .int) 4 89 X (fun as => ∃ i as', as = zr 7 i :: as') (cI g_X7_undo) := by
  intro as w Kf hv h
  obtain ⟨q, h1, h2⟩ := oC_inv h
  unfold g_X7_undo at h1
  obtain ⟨tk0, k0, r, rfl, h1_1⟩ := pR_inv h1
  obtain ⟨bk0, h1_1z⟩ := zif_inv h1_1
  cases Nat.eq_of_beq_eq_true bk0
  obtain ⟨rfl, h3⟩ := pE_inv h1_1z
  exact ⟨_, _, ⟨_, _, rfl⟩, h2, trivial, zmeth (cM := cm_X7_undo _) (bl := bl_X7_undo) (ret := rI) hI (by decide) fl_X7 ll_X7 (lf_X7_undo _) bk_X7_undo (Nat.le_of_ble_eq_true rfl) hv (fun hF => (zml_cons (zcv hF ⟨Nat.le_refl _, Nat.le_refl _⟩ rfl (tw2 (i := 89) rfl) k_X0_size ⟨by decide, by decide⟩ (a_X0_size hI _)) (zml_cons (zcv hF ⟨Nat.le_refl _, Nat.le_refl _⟩ rfl (tw3 (i := 81) rfl) k_X0_takeBackInto ⟨by decide, by decide⟩ (a_X0_takeBackInto hI _)) zml_nil))) (fun hF hr hk => zrt_I hF hr hk) h3⟩
def bl_X7_isSlot : ZBl := [(0, none, [(.iload_n 0, 1, 0, []), (.ifCond .lt 12, 3, 13, [])]), (4, none, [(.iload_n 0, 1, 0, []), (.iconst 2, 1, 0, []), (.if_icmp .ge 7, 3, 13, [])]), (9, none, [(.iconst 1, 1, 0, []), (.goto 4, 3, 14, [])]), (13, none, [(.iconst 0, 1, 0, [])]), (14, none, [(.ireturn, 1, 0, [])])]
set_option maxRecDepth 20000 in
theorem bk_X7_isSlot : zdb cX7_isSlot 1 bl_X7_isSlot = true := by decide +kernel
noncomputable def cm_X7_isSlot (ρ : Type) : List (Nat × Nat × ZCall ρ) := []
theorem lf_X7_isSlot (ρ : Type) : LfM (cm_X7_isSlot ρ) := lfm_of lfm_n
noncomputable def x_X7_isSlot : ZJ (Int32 × Wd) := zev cF_X7 cL_X7 bl_X7_isSlot (cm_X7_isSlot (Int32 × Wd)) rZ
noncomputable def f_X7_isSlot (x0 : Int32) (w : Wd) : Option (Int32 × Wd) := x_X7_isSlot 0 [] [some (zi x0)] w
noncomputable def g_X7_isSlot (r : List ZV) (w : Wd) : Option (Int32 × Wd) := pI r fun x0 r => pE r (f_X7_isSlot x0 w)
set_option maxRecDepth 20000 in
theorem e_X7_isSlot (x0 : Int32) (w : Wd) : f_X7_isSlot x0 w = (if x0 < 0 then (zb (Int32.ofInt 0) (some ((Int32.ofInt 0), w))) else (if (Int32.ofInt 2) ≤ x0 then (zb (Int32.ofInt 0) (some ((Int32.ofInt 0), w))) else (zb (Int32.ofInt 1) (some ((Int32.ofInt 1), w))))) := (zev_eq (lf_X7_isSlot _) _ _ _ _).trans rfl
theorem k_X7_isSlot : zLkS yX7_isSlot cX7_isSlot 1 (some .boolean) 1 := ⟨(tw3 (i := 90) rfl), (tw1 (i := 1) rfl), (tw3 (i := 91) rfl), by decide, by decide, by decide +kernel⟩
set_option maxHeartbeats 4000000 in
set_option maxRecDepth 20000 in
theorem a_X7_isSlot {l : Launch} {D : va_G} {ad : Nat → Nat → Nat} {cA : Nat → ClassId} (hI : zInj ad) {ρ : Type} (X : ρ) : zAns l D ad cA yX7_isSlot cX7_isSlot 1 (some .boolean) 0 0 X (fun _ => True) (cI g_X7_isSlot) := by
  intro as w Kf hv h
  obtain ⟨q, h1, h2⟩ := oC_inv h
  unfold g_X7_isSlot at h1
  obtain ⟨x0, r, rfl, h1_1⟩ := pI_inv h1
  obtain ⟨rfl, h3⟩ := pE_inv h1_1
  exact ⟨_, _, trivial, h2, trivial, zmeth (cM := cm_X7_isSlot _) (bl := bl_X7_isSlot) (ret := rZ) hI (by decide) fl_X7 ll_X7 (lf_X7_isSlot _) bk_X7_isSlot (Nat.le_of_ble_eq_true rfl) hv (fun hF => zml_nil) (fun hF hr hk => zrt_Z hF hr hk) h3⟩
def bl_X7_save : ZBl := [(0, none, [(.iload_n 1, 1, 0, []), (.invokestatic 250, 3, 0, []), (.ifCond .ne 6, 3, 10, [])]), (7, none, [(.bipush (-2), 2, 0, []), (.ireturn, 1, 0, [])]), (10, none, [(.aload_n 0, 1, 0, []), (.getfield 30, 3, 0, []), (.iload_n 1, 1, 0, []), (.aaload, 1, 0, []), (.aload_n 0, 1, 0, []), (.getfield 19, 3, 0, []), (.invokevirtual 253, 3, 0, []), (.aload_n 0, 1, 0, []), (.getfield 34, 3, 0, []), (.iload_n 1, 1, 0, []), (.iconst 1, 1, 0, []), (.bastore, 1, 0, []), (.aload_n 0, 1, 0, []), (.getfield 19, 3, 0, []), (.getfield 97, 3, 0, []), (.invokevirtual 158, 3, 0, []), (.ireturn, 1, 0, [])])]
set_option maxRecDepth 20000 in
theorem bk_X7_save : zdb cX7_save 2 bl_X7_save = true := by decide +kernel
noncomputable def cm_X7_save (ρ : Type) : List (Nat × Nat × ZCall ρ) := [(501, 1, cI g_X7_isSlot), (506, 2, cV g_X6_copyFrom), (316, 1, cI g_X2_allSteps)]
theorem lf_X7_save (ρ : Type) : LfM (cm_X7_save ρ) := lfm_of (lfm_cons (lfc_I g_X7_isSlot) (lfm_cons (lfc_V g_X6_copyFrom) (lfm_cons (lfc_I g_X2_allSteps) lfm_n)))
noncomputable def x_X7_save : ZJ (Int32 × Wd) := zev cF_X7 cL_X7 bl_X7_save (cm_X7_save (Int32 × Wd)) rI
noncomputable def f_X7_save (k0 : Nat) (x1 : Int32) (w : Wd) : Option (Int32 × Wd) := x_X7_save 0 [] [some (zr 7 k0), some (zi x1)] w
noncomputable def g_X7_save (r : List ZV) (w : Wd) : Option (Int32 × Wd) := pR r fun tk0 k0 r => zif (Nat.beq tk0 7) (pI r fun x1 r => pE r (f_X7_save k0 x1 w))
set_option maxRecDepth 20000 in
theorem e_X7_save (k0 : Nat) (x1 : Int32) (w : Wd) : f_X7_save k0 x1 w = (oC (f_X7_isSlot x1 w) fun q1 => (if q1.1 = 0 then (some ((Int32.ofInt (-2)), q1.2)) else (chk x1 2 (oC (f_X6_copyFrom (7 + x1.toNatClampNeg) 0 q1.2) fun q2 => (chk x1 2 (zb (Int32.ofInt 1) (oC (f_X2_allSteps 0 (wI q2 22 0 x1.toNatClampNeg (Int32.ofInt 1))) fun q3 => (some (q3.1, q3.2))))))))) := (zev_eq (lf_X7_save _) _ _ _ _).trans rfl
theorem k_X7_save : zLkV yX7_save cX7_save 2 (some .int) 7 1 := ⟨(tw3 (i := 86) rfl), (tw3 (i := 87) rfl), (tw1 (i := 1) rfl), (tw3 (i := 88) rfl), ⟨_, _, rfl⟩, rfl, by decide, by decide, by decide +kernel⟩
set_option maxHeartbeats 4000000 in
set_option maxRecDepth 20000 in
theorem a_X7_save {l : Launch} {D : va_G} {ad : Nat → Nat → Nat} {cA : Nat → ClassId} (hI : zInj ad) {ρ : Type} (X : ρ) : zAns l D ad cA yX7_save cX7_save 2 (some .int) 3 68 X (fun as => ∃ i as', as = zr 7 i :: as') (cI g_X7_save) := by
  intro as w Kf hv h
  obtain ⟨q, h1, h2⟩ := oC_inv h
  unfold g_X7_save at h1
  obtain ⟨tk0, k0, r, rfl, h1_1⟩ := pR_inv h1
  obtain ⟨bk0, h1_1z⟩ := zif_inv h1_1
  cases Nat.eq_of_beq_eq_true bk0
  obtain ⟨x1, r, rfl, h1_2⟩ := pI_inv h1_1z
  obtain ⟨rfl, h3⟩ := pE_inv h1_2
  exact ⟨_, _, ⟨_, _, rfl⟩, h2, trivial, zmeth (cM := cm_X7_save _) (bl := bl_X7_save) (ret := rI) hI (by decide) fl_X7 ll_X7 (lf_X7_save _) bk_X7_save (Nat.le_of_ble_eq_true rfl) hv (fun hF => (zml_cons (zcs hF ⟨Nat.le_refl _, Nat.le_refl _⟩ rfl (tw3 (i := 89) rfl) k_X7_isSlot ⟨by decide, by decide⟩ (a_X7_isSlot hI _)) (zml_cons (zcv hF ⟨Nat.le_refl _, Nat.le_refl _⟩ rfl (tw3 (i := 92) rfl) k_X6_copyFrom ⟨by decide, by decide⟩ (a_X6_copyFrom hI _)) (zml_cons (zcv hF ⟨Nat.le_refl _, Nat.le_refl _⟩ rfl (tw2 (i := 84) rfl) k_X2_allSteps ⟨by decide, by decide⟩ (a_X2_allSteps hI _)) zml_nil)))) (fun hF hr hk => zrt_I hF hr hk) h3⟩
def bl_X7_restore : ZBl := [(0, none, [(.iload_n 1, 1, 0, []), (.invokestatic 250, 3, 0, []), (.ifCond .ne 6, 3, 10, [])]), (7, none, [(.bipush (-2), 2, 0, []), (.ireturn, 1, 0, [])]), (10, none, [(.aload_n 0, 1, 0, []), (.getfield 34, 3, 0, []), (.iload_n 1, 1, 0, []), (.baload, 1, 0, []), (.ifCond .ne 6, 3, 22, [])]), (19, none, [(.bipush (-5), 2, 0, []), (.ireturn, 1, 0, [])]), (22, none, [(.aload_n 0, 1, 0, []), (.getfield 26, 3, 0, []), (.aload_n 0, 1, 0, []), (.getfield 19, 3, 0, []), (.invokevirtual 137, 3, 0, []), (.aload_n 0, 1, 0, []), (.getfield 19, 3, 0, []), (.aload_n 0, 1, 0, []), (.getfield 30, 3, 0, []), (.iload_n 1, 1, 0, []), (.aaload, 1, 0, []), (.invokevirtual 253, 3, 0, []), (.aload_n 0, 1, 0, []), (.getfield 19, 3, 0, []), (.getfield 97, 3, 0, []), (.invokevirtual 158, 3, 0, []), (.ireturn, 1, 0, [])])]
set_option maxRecDepth 20000 in
theorem bk_X7_restore : zdb cX7_restore 2 bl_X7_restore = true := by decide +kernel
noncomputable def cm_X7_restore (ρ : Type) : List (Nat × Nat × ZCall ρ) := [(501, 1, cI g_X7_isSlot), (274, 2, cV g_X0_record), (506, 2, cV g_X6_copyFrom), (316, 1, cI g_X2_allSteps)]
theorem lf_X7_restore (ρ : Type) : LfM (cm_X7_restore ρ) := lfm_of (lfm_cons (lfc_I g_X7_isSlot) (lfm_cons (lfc_V g_X0_record) (lfm_cons (lfc_V g_X6_copyFrom) (lfm_cons (lfc_I g_X2_allSteps) lfm_n))))
noncomputable def x_X7_restore : ZJ (Int32 × Wd) := zev cF_X7 cL_X7 bl_X7_restore (cm_X7_restore (Int32 × Wd)) rI
noncomputable def f_X7_restore (k0 : Nat) (x1 : Int32) (w : Wd) : Option (Int32 × Wd) := x_X7_restore 0 [] [some (zr 7 k0), some (zi x1)] w
noncomputable def g_X7_restore (r : List ZV) (w : Wd) : Option (Int32 × Wd) := pR r fun tk0 k0 r => zif (Nat.beq tk0 7) (pI r fun x1 r => pE r (f_X7_restore k0 x1 w))
set_option maxRecDepth 20000 in
theorem e_X7_restore (k0 : Nat) (x1 : Int32) (w : Wd) : f_X7_restore k0 x1 w = (oC (f_X7_isSlot x1 w) fun q1 => (if q1.1 = 0 then (some ((Int32.ofInt (-2)), q1.2)) else (chk x1 2 (if (q1.2.1 22 0 x1.toNatClampNeg) = 0 then (some ((Int32.ofInt (-5)), q1.2)) else (oC (f_X0_record 0 0 q1.2) fun q2 => (chk x1 2 (oC (f_X6_copyFrom 0 (7 + x1.toNatClampNeg) q2) fun q3 => (oC (f_X2_allSteps 0 q3) fun q4 => (some (q4.1, q4.2)))))))))) := (zev_eq (lf_X7_restore _) _ _ _ _).trans rfl
theorem k_X7_restore : zLkV yX7_restore cX7_restore 2 (some .int) 7 1 := ⟨(tw3 (i := 94) rfl), (tw3 (i := 95) rfl), (tw1 (i := 1) rfl), (tw3 (i := 96) rfl), ⟨_, _, rfl⟩, rfl, by decide, by decide, by decide +kernel⟩
set_option maxHeartbeats 4000000 in
set_option maxRecDepth 20000 in
theorem a_X7_restore {l : Launch} {D : va_G} {ad : Nat → Nat → Nat} {cA : Nat → ClassId} (hI : zInj ad) {ρ : Type} (X : ρ) : zAns l D ad cA yX7_restore cX7_restore 2 (some .int) 4 89 X (fun as => ∃ i as', as = zr 7 i :: as') (cI g_X7_restore) := by
  intro as w Kf hv h
  obtain ⟨q, h1, h2⟩ := oC_inv h
  unfold g_X7_restore at h1
  obtain ⟨tk0, k0, r, rfl, h1_1⟩ := pR_inv h1
  obtain ⟨bk0, h1_1z⟩ := zif_inv h1_1
  cases Nat.eq_of_beq_eq_true bk0
  obtain ⟨x1, r, rfl, h1_2⟩ := pI_inv h1_1z
  obtain ⟨rfl, h3⟩ := pE_inv h1_2
  exact ⟨_, _, ⟨_, _, rfl⟩, h2, trivial, zmeth (cM := cm_X7_restore _) (bl := bl_X7_restore) (ret := rI) hI (by decide) fl_X7 ll_X7 (lf_X7_restore _) bk_X7_restore (Nat.le_of_ble_eq_true rfl) hv (fun hF => (zml_cons (zcs hF ⟨Nat.le_refl _, Nat.le_refl _⟩ rfl (tw3 (i := 89) rfl) k_X7_isSlot ⟨by decide, by decide⟩ (a_X7_isSlot hI _)) (zml_cons (zcv hF ⟨Nat.le_refl _, Nat.le_refl _⟩ rfl (tw2 (i := 53) rfl) k_X0_record ⟨by decide, by decide⟩ (a_X0_record hI _)) (zml_cons (zcv hF ⟨Nat.le_refl _, Nat.le_refl _⟩ rfl (tw3 (i := 92) rfl) k_X6_copyFrom ⟨by decide, by decide⟩ (a_X6_copyFrom hI _)) (zml_cons (zcv hF ⟨Nat.le_refl _, Nat.le_refl _⟩ rfl (tw2 (i := 84) rfl) k_X2_allSteps ⟨by decide, by decide⟩ (a_X2_allSteps hI _)) zml_nil))))) (fun hF hr hk => zrt_I hF hr hk) h3⟩
