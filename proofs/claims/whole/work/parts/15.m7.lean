def bl_X7_chain : ZBl := [(0, none, [(.aload_n 0, 1, 0, []), (.getfield 55, 3, 0, []), (.aload_n 0, 1, 0, []), (.getfield 19, 3, 0, []), (.getfield 97, 3, 0, []), (.aload_n 0, 1, 0, []), (.getfield 19, 3, 0, []), (.getfield 141, 3, 0, []), (.invokevirtual 226, 3, 0, []), (.aload_n 0, 1, 0, []), (.getfield 55, 3, 0, []), (.invokevirtual 235, 3, 0, []), (.ireturn, 1, 0, [])])]
set_option maxRecDepth 20000 in
theorem bk_X7_chain : zdb cX7_chain 1 bl_X7_chain = true := by decide +kernel
noncomputable def cm_X7_chain (ρ : Type) : List (Nat × Nat × ZCall ρ) := [(452, 3, cV g_X4_lookAt), (470, 1, cI g_X4_longestChain)]
theorem lf_X7_chain (ρ : Type) : LfM (cm_X7_chain ρ) := lfm_of (lfm_cons (lfc_V g_X4_lookAt) (lfm_cons (lfc_I g_X4_longestChain) lfm_n))
noncomputable def x_X7_chain : ZJ (Int32 × Wd) := zev cF_X7 cL_X7 bl_X7_chain (cm_X7_chain (Int32 × Wd)) rI
noncomputable def f_X7_chain (k0 : Nat) (w : Wd) : Option (Int32 × Wd) := x_X7_chain 0 [] [some (zr 7 k0)] w
noncomputable def g_X7_chain (r : List ZV) (w : Wd) : Option (Int32 × Wd) := pR r fun tk0 k0 r => zif (Nat.beq tk0 7) (pE r (f_X7_chain k0 w))
set_option maxRecDepth 20000 in
theorem e_X7_chain (k0 : Nat) (w : Wd) : f_X7_chain k0 w = (oC (f_X4_lookAt 0 0 0 w) fun q1 => (oC (f_X4_longestChain 0 q1) fun q2 => (some (q2.1, q2.2)))) := (zev_eq (lf_X7_chain _) _ _ _ _).trans rfl
theorem k_X7_chain : zLkV yX7_chain cX7_chain 1 (some .int) 7 0 := ⟨(tw3 (i := 154) rfl), (tw3 (i := 155) rfl), (tw1 (i := 1) rfl), (tw3 (i := 156) rfl), ⟨_, _, rfl⟩, rfl, by decide, by decide, by decide +kernel⟩
set_option maxHeartbeats 4000000 in
set_option maxRecDepth 20000 in
theorem a_X7_chain {l : Launch} {D : va_G} {ad : Nat → Nat → Nat} {cA : Nat → ClassId} (hI : zInj ad) {ρ : Type} (X : ρ) : zAns l D ad cA yX7_chain cX7_chain 1 (some .int) 5 118 X (fun as => ∃ i as', as = zr 7 i :: as') (cI g_X7_chain) := by
  intro as w Kf hv h
  obtain ⟨q, h1, h2⟩ := oC_inv h
  unfold g_X7_chain at h1
  obtain ⟨tk0, k0, r, rfl, h1_1⟩ := pR_inv h1
  obtain ⟨bk0, h1_1z⟩ := zif_inv h1_1
  cases Nat.eq_of_beq_eq_true bk0
  obtain ⟨rfl, h3⟩ := pE_inv h1_1z
  exact ⟨_, _, ⟨_, _, rfl⟩, h2, trivial, zmeth (cM := cm_X7_chain _) (bl := bl_X7_chain) (ret := rI) hI (by decide) fl_X7 ll_X7 (lf_X7_chain _) bk_X7_chain (Nat.le_of_ble_eq_true rfl) hv (fun hF => (zml_cons (zcv hF ⟨Nat.le_refl _, Nat.le_refl _⟩ rfl (tw3 (i := 108) rfl) k_X4_lookAt ⟨by decide, by decide⟩ (a_X4_lookAt hI _)) (zml_cons (zcv hF ⟨Nat.le_refl _, Nat.le_refl _⟩ rfl (tw3 (i := 157) rfl) k_X4_longestChain ⟨by decide, by decide⟩ (a_X4_longestChain hI _)) zml_nil))) (fun hF hr hk => zrt_I hF hr hk) h3⟩
def bl_X7_lastWrite : ZBl := [(0, none, [(.iload_n 1, 1, 0, []), (.invokestatic 219, 3, 0, []), (.ifCond .ne 5, 3, 9, [])]), (7, none, [(.iconst (-1), 1, 0, []), (.ireturn, 1, 0, [])]), (9, none, [(.iload_n 2, 1, 0, []), (.ifCond .eq 11, 3, 21, [])]), (13, none, [(.iload_n 2, 1, 0, []), (.iconst 1, 1, 0, []), (.if_icmp .eq 6, 3, 21, [])]), (18, none, [(.bipush (-2), 2, 0, []), (.ireturn, 1, 0, [])]), (21, none, [(.iconst 1, 1, 0, []), (.iload_n 1, 1, 0, []), (.invokestatic 238, 3, 0, []), (.istore_n 3, 1, 0, []), (.bipush (-6), 2, 0, []), (.istore 4, 2, 0, []), (.bipush (-6), 2, 0, []), (.istore 5, 2, 0, []), (.iconst 0, 1, 0, []), (.istore 6, 2, 0, []), (.iconst 0, 1, 0, []), (.istore 7, 2, 0, [])]), (41, some [true, false, true, true, true, true, true, true, false], [(.iload 7, 2, 0, []), (.aload_n 0, 1, 0, []), (.getfield 19, 3, 0, []), (.getfield 141, 3, 0, []), (.invokevirtual 147, 3, 0, []), (.if_icmp .ge 68, 3, 121, [])]), (56, none, [(.aload_n 0, 1, 0, []), (.getfield 19, 3, 0, []), (.getfield 141, 3, 0, []), (.iload 7, 2, 0, []), (.invokevirtual 216, 3, 0, []), (.istore 8, 2, 0, []), (.aload_n 0, 1, 0, []), (.getfield 19, 3, 0, []), (.getfield 97, 3, 0, []), (.iload 8, 2, 0, []), (.iload 6, 2, 0, []), (.iload 8, 2, 0, []), (.invokestatic 179, 3, 0, []), (.invokevirtual 118, 3, 0, []), (.iload_n 3, 1, 0, []), (.if_icmp .ne 16, 3, 106, [])]), (93, none, [(.iload 8, 2, 0, []), (.istore 4, 2, 0, []), (.iload 6, 2, 0, []), (.iload 8, 2, 0, []), (.invokestatic 179, 3, 0, []), (.istore 5, 2, 0, [])]), (106, none, [(.iload 6, 2, 0, []), (.iload 8, 2, 0, []), (.invokestatic 241, 3, 0, []), (.istore 6, 2, 0, []), (.iinc 7 1, 3, 0, []), (.goto (-77), 3, 41, [])]), (121, none, [(.iload_n 2, 1, 0, []), (.ifCond .ne 8, 3, 130, [])]), (125, none, [(.iload 4, 2, 0, []), (.goto 5, 3, 132, [])]), (130, none, [(.iload 5, 2, 0, [])]), (132, none, [(.ireturn, 1, 0, [])])]
set_option maxRecDepth 20000 in
theorem bk_X7_lastWrite : zdb cX7_lastWrite 9 bl_X7_lastWrite = true := by decide +kernel
noncomputable def cm_X7_lastWrite (ρ : Type) : List (Nat × Nat × ZCall ρ) := [(439, 1, cI g_X7_isName), (477, 2, cI g_X7_codeOf), (294, 1, cI g_X3_length), (432, 2, cI g_X3_threadAt), (359, 2, cI g_X7_doneBy), (236, 3, cI g_X2_stepOf), (483, 2, cI g_X7_standAfter)]
theorem lf_X7_lastWrite (ρ : Type) : LfM (cm_X7_lastWrite ρ) := lfm_of (lfm_cons (lfc_I g_X7_isName) (lfm_cons (lfc_I g_X7_codeOf) (lfm_cons (lfc_I g_X3_length) (lfm_cons (lfc_I g_X3_threadAt) (lfm_cons (lfc_I g_X7_doneBy) (lfm_cons (lfc_I g_X2_stepOf) (lfm_cons (lfc_I g_X7_standAfter) lfm_n)))))))
noncomputable def x_X7_lastWrite : ZJ (Int32 × Wd) := zev cF_X7 cL_X7 bl_X7_lastWrite (cm_X7_lastWrite (Int32 × Wd)) rI
noncomputable def f_X7_lastWrite (k0 : Nat) (x1 : Int32) (x2 : Int32) (w : Wd) : Option (Int32 × Wd) := x_X7_lastWrite 0 [] [some (zr 7 k0), some (zi x1), some (zi x2), none, none, none, none, none, none] w
noncomputable def g_X7_lastWrite (r : List ZV) (w : Wd) : Option (Int32 × Wd) := pR r fun tk0 k0 r => zif (Nat.beq tk0 7) (pI r fun x1 r => pI r fun x2 r => pE r (f_X7_lastWrite k0 x1 x2 w))
set_option maxRecDepth 20000 in
theorem e_X7_lastWrite (k0 : Nat) (x1 : Int32) (x2 : Int32) (w : Wd) : f_X7_lastWrite k0 x1 x2 w = (oC (f_X7_isName x1 w) fun q1 => (if q1.1 = 0 then (some ((Int32.ofInt (-1)), q1.2)) else (if x2 = 0 then (oC (f_X7_codeOf (Int32.ofInt 1) x1 q1.2) fun q2 => (x_X7_lastWrite 41 [] [some (zr 7 k0), none, some (zi x2), some (zi q2.1), some (zi (Int32.ofInt (-6))), some (zi (Int32.ofInt (-6))), some (zi (Int32.ofInt 0)), some (zi (Int32.ofInt 0)), none] q2.2)) else (if x2 = (Int32.ofInt 1) then (oC (f_X7_codeOf (Int32.ofInt 1) x1 q1.2) fun q3 => (x_X7_lastWrite 41 [] [some (zr 7 k0), none, some (zi x2), some (zi q3.1), some (zi (Int32.ofInt (-6))), some (zi (Int32.ofInt (-6))), some (zi (Int32.ofInt 0)), some (zi (Int32.ofInt 0)), none] q3.2)) else (some ((Int32.ofInt (-2)), q1.2)))))) := (zev_eq (lf_X7_lastWrite _) _ _ _ _).trans rfl
set_option maxRecDepth 20000 in
theorem e_X7_lastWrite_41 (k0 : Nat) (x2 : Int32) (x3 : Int32) (x4 : Int32) (x5 : Int32) (x6 : Int32) (x7 : Int32) (w : Wd) : x_X7_lastWrite 41 [] [some (zr 7 k0), none, some (zi x2), some (zi x3), some (zi x4), some (zi x5), some (zi x6), some (zi x7), none] w = (oC (f_X3_length 0 w) fun q1 => (if q1.1 ≤ x7 then (if x2 = 0 then (some (x4, q1.2)) else (some (x5, q1.2))) else (oC (f_X3_threadAt 0 x7 q1.2) fun q2 => (oC (f_X7_doneBy x6 q2.1 q2.2) fun q3 => (oC (f_X2_stepOf 0 q2.1 q3.1 q3.2) fun q4 => (if q4.1 = x3 then (oC (f_X7_doneBy x6 q2.1 q4.2) fun q6 => (oC (f_X7_standAfter x6 q2.1 q6.2) fun q7 => (x_X7_lastWrite 41 [] [some (zr 7 k0), none, some (zi x2), some (zi x3), some (zi q2.1), some (zi q6.1), some (zi q7.1), some (zi (x7 + (Int32.ofInt 1))), none] q7.2))) else (oC (f_X7_standAfter x6 q2.1 q4.2) fun q5 => (x_X7_lastWrite 41 [] [some (zr 7 k0), none, some (zi x2), some (zi x3), some (zi x4), some (zi x5), some (zi q5.1), some (zi (x7 + (Int32.ofInt 1))), none] q5.2)))))))) := (zev_eq (lf_X7_lastWrite _) _ _ _ _).trans rfl
theorem k_X7_lastWrite : zLkV yX7_lastWrite cX7_lastWrite 9 (some .int) 7 2 := ⟨(tw3 (i := 162) rfl), (tw3 (i := 163) rfl), (tw1 (i := 1) rfl), (tw3 (i := 164) rfl), ⟨_, _, rfl⟩, rfl, by decide, by decide, by decide +kernel⟩
set_option maxHeartbeats 4000000 in
set_option maxRecDepth 20000 in
theorem a_X7_lastWrite {l : Launch} {D : va_G} {ad : Nat → Nat → Nat} {cA : Nat → ClassId} (hI : zInj ad) {ρ : Type} (X : ρ) : zAns l D ad cA yX7_lastWrite cX7_lastWrite 9 (some .int) 1 22 X (fun as => ∃ i as', as = zr 7 i :: as') (cI g_X7_lastWrite) := by
  intro as w Kf hv h
  obtain ⟨q, h1, h2⟩ := oC_inv h
  unfold g_X7_lastWrite at h1
  obtain ⟨tk0, k0, r, rfl, h1_1⟩ := pR_inv h1
  obtain ⟨bk0, h1_1z⟩ := zif_inv h1_1
  cases Nat.eq_of_beq_eq_true bk0
  obtain ⟨x1, r, rfl, h1_2⟩ := pI_inv h1_1z
  obtain ⟨x2, r, rfl, h1_3⟩ := pI_inv h1_2
  obtain ⟨rfl, h3⟩ := pE_inv h1_3
  exact ⟨_, _, ⟨_, _, rfl⟩, h2, trivial, zmeth (cM := cm_X7_lastWrite _) (bl := bl_X7_lastWrite) (ret := rI) hI (by decide) fl_X7 ll_X7 (lf_X7_lastWrite _) bk_X7_lastWrite (Nat.le_of_ble_eq_true rfl) hv (fun hF => (zml_cons (zcs hF ⟨Nat.le_refl _, Nat.le_refl _⟩ rfl (tw3 (i := 96) rfl) k_X7_isName ⟨by decide, by decide⟩ (a_X7_isName hI _)) (zml_cons (zcs hF ⟨Nat.le_refl _, Nat.le_refl _⟩ rfl (tw3 (i := 165) rfl) k_X7_codeOf ⟨by decide, by decide⟩ (a_X7_codeOf hI _)) (zml_cons (zcv hF ⟨Nat.le_refl _, Nat.le_refl _⟩ rfl (tw2 (i := 189) rfl) k_X3_length ⟨by decide, by decide⟩ (a_X3_length hI _)) (zml_cons (zcv hF ⟨Nat.le_refl _, Nat.le_refl _⟩ rfl (tw3 (i := 91) rfl) k_X3_threadAt ⟨by decide, by decide⟩ (a_X3_threadAt hI _)) (zml_cons (zcs hF ⟨Nat.le_refl _, Nat.le_refl _⟩ rfl (tw3 (i := 16) rfl) k_X7_doneBy ⟨by decide, by decide⟩ (a_X7_doneBy hI _)) (zml_cons (zcv hF ⟨Nat.le_refl _, Nat.le_refl _⟩ rfl (tw2 (i := 105) rfl) k_X2_stepOf ⟨by decide, by decide⟩ (a_X2_stepOf hI _)) (zml_cons (zcs hF ⟨Nat.le_refl _, Nat.le_refl _⟩ rfl (tw3 (i := 166) rfl) k_X7_standAfter ⟨by decide, by decide⟩ (a_X7_standAfter hI _)) zml_nil)))))))) (fun hF hr hk => zrt_I hF hr hk) h3⟩
def bl_X7_alikeRuns : ZBl := [(0, none, [(.aload_n 0, 1, 0, []), (.getfield 55, 3, 0, []), (.aload_n 0, 1, 0, []), (.getfield 19, 3, 0, []), (.getfield 97, 3, 0, []), (.aload_n 0, 1, 0, []), (.getfield 19, 3, 0, []), (.getfield 141, 3, 0, []), (.invokevirtual 226, 3, 0, []), (.aload_n 0, 1, 0, []), (.getfield 55, 3, 0, []), (.invokevirtual 244, 3, 0, []), (.lreturn, 1, 0, [])])]
set_option maxRecDepth 20000 in
theorem bk_X7_alikeRuns : zdb cX7_alikeRuns 1 bl_X7_alikeRuns = true := by decide +kernel
noncomputable def cm_X7_alikeRuns (ρ : Type) : List (Nat × Nat × ZCall ρ) := [(452, 3, cV g_X4_lookAt), (488, 1, cJ g_X4_linearOrders)]
theorem lf_X7_alikeRuns (ρ : Type) : LfM (cm_X7_alikeRuns ρ) := lfm_of (lfm_cons (lfc_V g_X4_lookAt) (lfm_cons (lfc_J g_X4_linearOrders) lfm_n))
noncomputable def x_X7_alikeRuns : ZJ (Int64 × Wd) := zev cF_X7 cL_X7 bl_X7_alikeRuns (cm_X7_alikeRuns (Int64 × Wd)) rJ
noncomputable def f_X7_alikeRuns (k0 : Nat) (w : Wd) : Option (Int64 × Wd) := x_X7_alikeRuns 0 [] [some (zr 7 k0)] w
noncomputable def g_X7_alikeRuns (r : List ZV) (w : Wd) : Option (Int64 × Wd) := pR r fun tk0 k0 r => zif (Nat.beq tk0 7) (pE r (f_X7_alikeRuns k0 w))
set_option maxRecDepth 20000 in
theorem e_X7_alikeRuns (k0 : Nat) (w : Wd) : f_X7_alikeRuns k0 w = (oC (f_X4_lookAt 0 0 0 w) fun q1 => (oC (f_X4_linearOrders 0 q1) fun q2 => (some (q2.1, q2.2)))) := (zev_eq (lf_X7_alikeRuns _) _ _ _ _).trans rfl
theorem k_X7_alikeRuns : zLkV yX7_alikeRuns cX7_alikeRuns 1 (some .long) 7 0 := ⟨(tw3 (i := 168) rfl), (tw3 (i := 169) rfl), (tw1 (i := 1) rfl), (tw3 (i := 170) rfl), ⟨_, _, rfl⟩, rfl, by decide, by decide, by decide +kernel⟩
set_option maxHeartbeats 4000000 in
set_option maxRecDepth 20000 in
theorem a_X7_alikeRuns {l : Launch} {D : va_G} {ad : Nat → Nat → Nat} {cA : Nat → ClassId} (hI : zInj ad) {ρ : Type} (X : ρ) : zAns l D ad cA yX7_alikeRuns cX7_alikeRuns 1 (some .long) 5 118 X (fun as => ∃ i as', as = zr 7 i :: as') (cJ g_X7_alikeRuns) := by
  intro as w Kf hv h
  obtain ⟨q, h1, h2⟩ := oC_inv h
  unfold g_X7_alikeRuns at h1
  obtain ⟨tk0, k0, r, rfl, h1_1⟩ := pR_inv h1
  obtain ⟨bk0, h1_1z⟩ := zif_inv h1_1
  cases Nat.eq_of_beq_eq_true bk0
  obtain ⟨rfl, h3⟩ := pE_inv h1_1z
  exact ⟨_, _, ⟨_, _, rfl⟩, h2, trivial, zmeth (cM := cm_X7_alikeRuns _) (bl := bl_X7_alikeRuns) (ret := rJ) hI (by decide) fl_X7 ll_X7 (lf_X7_alikeRuns _) bk_X7_alikeRuns (Nat.le_of_ble_eq_true rfl) hv (fun hF => (zml_cons (zcv hF ⟨Nat.le_refl _, Nat.le_refl _⟩ rfl (tw3 (i := 108) rfl) k_X4_lookAt ⟨by decide, by decide⟩ (a_X4_lookAt hI _)) (zml_cons (zcv hF ⟨Nat.le_refl _, Nat.le_refl _⟩ rfl (tw3 (i := 171) rfl) k_X4_linearOrders ⟨by decide, by decide⟩ (a_X4_linearOrders hI _)) zml_nil))) (fun hF hr hk => zrt_J hF hr hk) h3⟩
def bl_X7_undo : ZBl := [(0, none, [(.aload_n 0, 1, 0, []), (.getfield 26, 3, 0, []), (.invokevirtual 161, 3, 0, []), (.ifCond .ne 6, 3, 13, [])]), (10, none, [(.bipush (-5), 2, 0, []), (.ireturn, 1, 0, [])]), (13, none, [(.aload_n 0, 1, 0, []), (.getfield 26, 3, 0, []), (.aload_n 0, 1, 0, []), (.getfield 19, 3, 0, []), (.invokevirtual 247, 3, 0, []), (.aload_n 0, 1, 0, []), (.getfield 26, 3, 0, []), (.invokevirtual 161, 3, 0, []), (.ireturn, 1, 0, [])])]
set_option maxRecDepth 20000 in
theorem bk_X7_undo : zdb cX7_undo 1 bl_X7_undo = true := by decide +kernel
noncomputable def cm_X7_undo (ρ : Type) : List (Nat × Nat × ZCall ρ) := [(322, 1, cI g_X0_size), (494, 2, cV g_X0_takeBackInto)]
theorem lf_X7_undo (ρ : Type) : LfM (cm_X7_undo ρ) := lfm_of (lfm_cons (lfc_I g_X0_size) (lfm_cons (lfc_V g_X0_takeBackInto) lfm_n))
noncomputable def x_X7_undo : ZJ (Int32 × Wd) := zev cF_X7 cL_X7 bl_X7_undo (cm_X7_undo (Int32 × Wd)) rI
noncomputable def f_X7_undo (k0 : Nat) (w : Wd) : Option (Int32 × Wd) := x_X7_undo 0 [] [some (zr 7 k0)] w
noncomputable def g_X7_undo (r : List ZV) (w : Wd) : Option (Int32 × Wd) := pR r fun tk0 k0 r => zif (Nat.beq tk0 7) (pE r (f_X7_undo k0 w))
set_option maxRecDepth 20000 in
theorem e_X7_undo (k0 : Nat) (w : Wd) : f_X7_undo k0 w = (oC (f_X0_size 0 w) fun q1 => (if q1.1 = 0 then (some ((Int32.ofInt (-5)), q1.2)) else (oC (f_X0_takeBackInto 0 0 q1.2) fun q2 => (oC (f_X0_size 0 q2) fun q3 => (some (q3.1, q3.2)))))) := (zev_eq (lf_X7_undo _) _ _ _ _).trans rfl
theorem k_X7_undo : zLkV yX7_undo cX7_undo 1 (some .int) 7 0 := ⟨(tw3 (i := 177) rfl), (tw3 (i := 178) rfl), (tw1 (i := 1) rfl), (tw3 (i := 179) rfl), ⟨_, _, rfl⟩, rfl, by decide, by decide, by decide +kernel⟩
set_option maxHeartbeats 4000000 in
set_option maxRecDepth 20000 in
theorem a_X7_undo {l : Launch} {D : va_G} {ad : Nat → Nat → Nat} {cA : Nat → ClassId} (hI : zInj ad) {ρ : Type} (X : ρ) : zAns l D ad cA yX7_undo cX7_undo 1 (some .int) 4 89 X (fun as => ∃ i as', as = zr 7 i :: as') (cI g_X7_undo) := by
  intro as w Kf hv h
  obtain ⟨q, h1, h2⟩ := oC_inv h
  unfold g_X7_undo at h1
  obtain ⟨tk0, k0, r, rfl, h1_1⟩ := pR_inv h1
  obtain ⟨bk0, h1_1z⟩ := zif_inv h1_1
  cases Nat.eq_of_beq_eq_true bk0
  obtain ⟨rfl, h3⟩ := pE_inv h1_1z
  exact ⟨_, _, ⟨_, _, rfl⟩, h2, trivial, zmeth (cM := cm_X7_undo _) (bl := bl_X7_undo) (ret := rI) hI (by decide) fl_X7 ll_X7 (lf_X7_undo _) bk_X7_undo (Nat.le_of_ble_eq_true rfl) hv (fun hF => (zml_cons (zcv hF ⟨Nat.le_refl _, Nat.le_refl _⟩ rfl (tw2 (i := 211) rfl) k_X0_size ⟨by decide, by decide⟩ (a_X0_size hI _)) (zml_cons (zcv hF ⟨Nat.le_refl _, Nat.le_refl _⟩ rfl (tw3 (i := 180) rfl) k_X0_takeBackInto ⟨by decide, by decide⟩ (a_X0_takeBackInto hI _)) zml_nil))) (fun hF hr hk => zrt_I hF hr hk) h3⟩
def bl_X7_isSlot : ZBl := [(0, none, [(.iload_n 0, 1, 0, []), (.ifCond .lt 12, 3, 13, [])]), (4, none, [(.iload_n 0, 1, 0, []), (.iconst 2, 1, 0, []), (.if_icmp .ge 7, 3, 13, [])]), (9, none, [(.iconst 1, 1, 0, []), (.goto 4, 3, 14, [])]), (13, none, [(.iconst 0, 1, 0, [])]), (14, none, [(.ireturn, 1, 0, [])])]
set_option maxRecDepth 20000 in
theorem bk_X7_isSlot : zdb cX7_isSlot 1 bl_X7_isSlot = true := by decide +kernel
noncomputable def cm_X7_isSlot (ρ : Type) : List (Nat × Nat × ZCall ρ) := []
theorem lf_X7_isSlot (ρ : Type) : LfM (cm_X7_isSlot ρ) := lfm_of lfm_n
noncomputable def x_X7_isSlot : ZJ (Int32 × Wd) := zev cF_X7 cL_X7 bl_X7_isSlot (cm_X7_isSlot (Int32 × Wd)) rZ
noncomputable def f_X7_isSlot (x0 : Int32) (w : Wd) : Option (Int32 × Wd) := x_X7_isSlot 0 [] [some (zi x0)] w
noncomputable def g_X7_isSlot (r : List ZV) (w : Wd) : Option (Int32 × Wd) := pI r fun x0 r => pE r (f_X7_isSlot x0 w)
set_option maxRecDepth 20000 in
theorem e_X7_isSlot (x0 : Int32) (w : Wd) : f_X7_isSlot x0 w = (if x0 < 0 then (zb (Int32.ofInt 0) (some ((Int32.ofInt 0), w))) else (if (Int32.ofInt 2) ≤ x0 then (zb (Int32.ofInt 0) (some ((Int32.ofInt 0), w))) else (zb (Int32.ofInt 1) (some ((Int32.ofInt 1), w))))) := (zev_eq (lf_X7_isSlot _) _ _ _ _).trans rfl
theorem k_X7_isSlot : zLkS yX7_isSlot cX7_isSlot 1 (some .boolean) 1 := ⟨(tw3 (i := 189) rfl), (tw1 (i := 1) rfl), (tw3 (i := 190) rfl), by decide, by decide, by decide +kernel⟩
set_option maxHeartbeats 4000000 in
set_option maxRecDepth 20000 in
theorem a_X7_isSlot {l : Launch} {D : va_G} {ad : Nat → Nat → Nat} {cA : Nat → ClassId} (hI : zInj ad) {ρ : Type} (X : ρ) : zAns l D ad cA yX7_isSlot cX7_isSlot 1 (some .boolean) 0 0 X (fun _ => True) (cI g_X7_isSlot) := by
  intro as w Kf hv h
  obtain ⟨q, h1, h2⟩ := oC_inv h
  unfold g_X7_isSlot at h1
  obtain ⟨x0, r, rfl, h1_1⟩ := pI_inv h1
  obtain ⟨rfl, h3⟩ := pE_inv h1_1
  exact ⟨_, _, trivial, h2, trivial, zmeth (cM := cm_X7_isSlot _) (bl := bl_X7_isSlot) (ret := rZ) hI (by decide) fl_X7 ll_X7 (lf_X7_isSlot _) bk_X7_isSlot (Nat.le_of_ble_eq_true rfl) hv (fun hF => zml_nil) (fun hF hr hk => zrt_Z hF hr hk) h3⟩
def bl_X7_save : ZBl := [(0, none, [(.iload_n 1, 1, 0, []), (.invokestatic 250, 3, 0, []), (.ifCond .ne 6, 3, 10, [])]), (7, none, [(.bipush (-2), 2, 0, []), (.ireturn, 1, 0, [])]), (10, none, [(.aload_n 0, 1, 0, []), (.getfield 30, 3, 0, []), (.iload_n 1, 1, 0, []), (.aaload, 1, 0, []), (.aload_n 0, 1, 0, []), (.getfield 19, 3, 0, []), (.invokevirtual 253, 3, 0, []), (.aload_n 0, 1, 0, []), (.getfield 34, 3, 0, []), (.iload_n 1, 1, 0, []), (.iconst 1, 1, 0, []), (.bastore, 1, 0, []), (.aload_n 0, 1, 0, []), (.getfield 19, 3, 0, []), (.getfield 97, 3, 0, []), (.invokevirtual 158, 3, 0, []), (.ireturn, 1, 0, [])])]
set_option maxRecDepth 20000 in
theorem bk_X7_save : zdb cX7_save 2 bl_X7_save = true := by decide +kernel
noncomputable def cm_X7_save (ρ : Type) : List (Nat × Nat × ZCall ρ) := [(501, 1, cI g_X7_isSlot), (506, 2, cV g_X6_copyFrom), (316, 1, cI g_X2_allSteps)]
theorem lf_X7_save (ρ : Type) : LfM (cm_X7_save ρ) := lfm_of (lfm_cons (lfc_I g_X7_isSlot) (lfm_cons (lfc_V g_X6_copyFrom) (lfm_cons (lfc_I g_X2_allSteps) lfm_n)))
noncomputable def x_X7_save : ZJ (Int32 × Wd) := zev cF_X7 cL_X7 bl_X7_save (cm_X7_save (Int32 × Wd)) rI
noncomputable def f_X7_save (k0 : Nat) (x1 : Int32) (w : Wd) : Option (Int32 × Wd) := x_X7_save 0 [] [some (zr 7 k0), some (zi x1)] w
noncomputable def g_X7_save (r : List ZV) (w : Wd) : Option (Int32 × Wd) := pR r fun tk0 k0 r => zif (Nat.beq tk0 7) (pI r fun x1 r => pE r (f_X7_save k0 x1 w))
set_option maxRecDepth 20000 in
theorem e_X7_save (k0 : Nat) (x1 : Int32) (w : Wd) : f_X7_save k0 x1 w = (oC (f_X7_isSlot x1 w) fun q1 => (if q1.1 = 0 then (some ((Int32.ofInt (-2)), q1.2)) else (chk x1 2 (oC (f_X6_copyFrom (7 + x1.toNatClampNeg) 0 q1.2) fun q2 => (chk x1 2 (zb (Int32.ofInt 1) (oC (f_X2_allSteps 0 (wI q2 22 0 x1.toNatClampNeg (Int32.ofInt 1))) fun q3 => (some (q3.1, q3.2))))))))) := (zev_eq (lf_X7_save _) _ _ _ _).trans rfl
theorem k_X7_save : zLkV yX7_save cX7_save 2 (some .int) 7 1 := ⟨(tw3 (i := 185) rfl), (tw3 (i := 186) rfl), (tw1 (i := 1) rfl), (tw3 (i := 187) rfl), ⟨_, _, rfl⟩, rfl, by decide, by decide, by decide +kernel⟩
set_option maxHeartbeats 4000000 in
set_option maxRecDepth 20000 in
theorem a_X7_save {l : Launch} {D : va_G} {ad : Nat → Nat → Nat} {cA : Nat → ClassId} (hI : zInj ad) {ρ : Type} (X : ρ) : zAns l D ad cA yX7_save cX7_save 2 (some .int) 3 68 X (fun as => ∃ i as', as = zr 7 i :: as') (cI g_X7_save) := by
  intro as w Kf hv h
  obtain ⟨q, h1, h2⟩ := oC_inv h
  unfold g_X7_save at h1
  obtain ⟨tk0, k0, r, rfl, h1_1⟩ := pR_inv h1
  obtain ⟨bk0, h1_1z⟩ := zif_inv h1_1
  cases Nat.eq_of_beq_eq_true bk0
  obtain ⟨x1, r, rfl, h1_2⟩ := pI_inv h1_1z
  obtain ⟨rfl, h3⟩ := pE_inv h1_2
  exact ⟨_, _, ⟨_, _, rfl⟩, h2, trivial, zmeth (cM := cm_X7_save _) (bl := bl_X7_save) (ret := rI) hI (by decide) fl_X7 ll_X7 (lf_X7_save _) bk_X7_save (Nat.le_of_ble_eq_true rfl) hv (fun hF => (zml_cons (zcs hF ⟨Nat.le_refl _, Nat.le_refl _⟩ rfl (tw3 (i := 188) rfl) k_X7_isSlot ⟨by decide, by decide⟩ (a_X7_isSlot hI _)) (zml_cons (zcv hF ⟨Nat.le_refl _, Nat.le_refl _⟩ rfl (tw3 (i := 191) rfl) k_X6_copyFrom ⟨by decide, by decide⟩ (a_X6_copyFrom hI _)) (zml_cons (zcv hF ⟨Nat.le_refl _, Nat.le_refl _⟩ rfl (tw2 (i := 207) rfl) k_X2_allSteps ⟨by decide, by decide⟩ (a_X2_allSteps hI _)) zml_nil)))) (fun hF hr hk => zrt_I hF hr hk) h3⟩
def bl_X7_restore : ZBl := [(0, none, [(.iload_n 1, 1, 0, []), (.invokestatic 250, 3, 0, []), (.ifCond .ne 6, 3, 10, [])]), (7, none, [(.bipush (-2), 2, 0, []), (.ireturn, 1, 0, [])]), (10, none, [(.aload_n 0, 1, 0, []), (.getfield 34, 3, 0, []), (.iload_n 1, 1, 0, []), (.baload, 1, 0, []), (.ifCond .ne 6, 3, 22, [])]), (19, none, [(.bipush (-5), 2, 0, []), (.ireturn, 1, 0, [])]), (22, none, [(.aload_n 0, 1, 0, []), (.getfield 26, 3, 0, []), (.aload_n 0, 1, 0, []), (.getfield 19, 3, 0, []), (.invokevirtual 137, 3, 0, []), (.aload_n 0, 1, 0, []), (.getfield 19, 3, 0, []), (.aload_n 0, 1, 0, []), (.getfield 30, 3, 0, []), (.iload_n 1, 1, 0, []), (.aaload, 1, 0, []), (.invokevirtual 253, 3, 0, []), (.aload_n 0, 1, 0, []), (.getfield 19, 3, 0, []), (.getfield 97, 3, 0, []), (.invokevirtual 158, 3, 0, []), (.ireturn, 1, 0, [])])]
set_option maxRecDepth 20000 in
theorem bk_X7_restore : zdb cX7_restore 2 bl_X7_restore = true := by decide +kernel
noncomputable def cm_X7_restore (ρ : Type) : List (Nat × Nat × ZCall ρ) := [(501, 1, cI g_X7_isSlot), (274, 2, cV g_X0_record), (506, 2, cV g_X6_copyFrom), (316, 1, cI g_X2_allSteps)]
theorem lf_X7_restore (ρ : Type) : LfM (cm_X7_restore ρ) := lfm_of (lfm_cons (lfc_I g_X7_isSlot) (lfm_cons (lfc_V g_X0_record) (lfm_cons (lfc_V g_X6_copyFrom) (lfm_cons (lfc_I g_X2_allSteps) lfm_n))))
noncomputable def x_X7_restore : ZJ (Int32 × Wd) := zev cF_X7 cL_X7 bl_X7_restore (cm_X7_restore (Int32 × Wd)) rI
noncomputable def f_X7_restore (k0 : Nat) (x1 : Int32) (w : Wd) : Option (Int32 × Wd) := x_X7_restore 0 [] [some (zr 7 k0), some (zi x1)] w
noncomputable def g_X7_restore (r : List ZV) (w : Wd) : Option (Int32 × Wd) := pR r fun tk0 k0 r => zif (Nat.beq tk0 7) (pI r fun x1 r => pE r (f_X7_restore k0 x1 w))
set_option maxRecDepth 20000 in
theorem e_X7_restore (k0 : Nat) (x1 : Int32) (w : Wd) : f_X7_restore k0 x1 w = (oC (f_X7_isSlot x1 w) fun q1 => (if q1.1 = 0 then (some ((Int32.ofInt (-2)), q1.2)) else (chk x1 2 (if (q1.2.1 22 0 x1.toNatClampNeg) = 0 then (some ((Int32.ofInt (-5)), q1.2)) else (oC (f_X0_record 0 0 q1.2) fun q2 => (chk x1 2 (oC (f_X6_copyFrom 0 (7 + x1.toNatClampNeg) q2) fun q3 => (oC (f_X2_allSteps 0 q3) fun q4 => (some (q4.1, q4.2)))))))))) := (zev_eq (lf_X7_restore _) _ _ _ _).trans rfl
theorem k_X7_restore : zLkV yX7_restore cX7_restore 2 (some .int) 7 1 := ⟨(tw3 (i := 193) rfl), (tw3 (i := 194) rfl), (tw1 (i := 1) rfl), (tw3 (i := 195) rfl), ⟨_, _, rfl⟩, rfl, by decide, by decide, by decide +kernel⟩
set_option maxHeartbeats 4000000 in
set_option maxRecDepth 20000 in
theorem a_X7_restore {l : Launch} {D : va_G} {ad : Nat → Nat → Nat} {cA : Nat → ClassId} (hI : zInj ad) {ρ : Type} (X : ρ) : zAns l D ad cA yX7_restore cX7_restore 2 (some .int) 4 89 X (fun as => ∃ i as', as = zr 7 i :: as') (cI g_X7_restore) := by
  intro as w Kf hv h
  obtain ⟨q, h1, h2⟩ := oC_inv h
  unfold g_X7_restore at h1
  obtain ⟨tk0, k0, r, rfl, h1_1⟩ := pR_inv h1
  obtain ⟨bk0, h1_1z⟩ := zif_inv h1_1
  cases Nat.eq_of_beq_eq_true bk0
  obtain ⟨x1, r, rfl, h1_2⟩ := pI_inv h1_1z
  obtain ⟨rfl, h3⟩ := pE_inv h1_2
  exact ⟨_, _, ⟨_, _, rfl⟩, h2, trivial, zmeth (cM := cm_X7_restore _) (bl := bl_X7_restore) (ret := rI) hI (by decide) fl_X7 ll_X7 (lf_X7_restore _) bk_X7_restore (Nat.le_of_ble_eq_true rfl) hv (fun hF => (zml_cons (zcs hF ⟨Nat.le_refl _, Nat.le_refl _⟩ rfl (tw3 (i := 188) rfl) k_X7_isSlot ⟨by decide, by decide⟩ (a_X7_isSlot hI _)) (zml_cons (zcv hF ⟨Nat.le_refl _, Nat.le_refl _⟩ rfl (tw2 (i := 78) rfl) k_X0_record ⟨by decide, by decide⟩ (a_X0_record hI _)) (zml_cons (zcv hF ⟨Nat.le_refl _, Nat.le_refl _⟩ rfl (tw3 (i := 191) rfl) k_X6_copyFrom ⟨by decide, by decide⟩ (a_X6_copyFrom hI _)) (zml_cons (zcv hF ⟨Nat.le_refl _, Nat.le_refl _⟩ rfl (tw2 (i := 207) rfl) k_X2_allSteps ⟨by decide, by decide⟩ (a_X2_allSteps hI _)) zml_nil))))) (fun hF hr hk => zrt_I hF hr hk) h3⟩
def bl_X8_in : ZBl := [(0, none, [(.iload_n 0, 1, 0, []), (.iload_n 1, 1, 0, []), (.if_icmp .lt 12, 3, 14, [])]), (5, none, [(.iload_n 0, 1, 0, []), (.iload_n 2, 1, 0, []), (.if_icmp .gt 7, 3, 14, [])]), (10, none, [(.iconst 1, 1, 0, []), (.goto 4, 3, 15, [])]), (14, none, [(.iconst 0, 1, 0, [])]), (15, none, [(.ireturn, 1, 0, [])])]
set_option maxRecDepth 20000 in
theorem bk_X8_in : zdb cX8_in 3 bl_X8_in = true := by decide +kernel
noncomputable def cm_X8_in (ρ : Type) : List (Nat × Nat × ZCall ρ) := []
theorem lf_X8_in (ρ : Type) : LfM (cm_X8_in ρ) := lfm_of lfm_n
noncomputable def x_X8_in : ZJ (Int32 × Wd) := zev cF_X8 cL_X8 bl_X8_in (cm_X8_in (Int32 × Wd)) rZ
noncomputable def f_X8_in (x0 : Int32) (x1 : Int32) (x2 : Int32) (w : Wd) : Option (Int32 × Wd) := x_X8_in 0 [] [some (zi x0), some (zi x1), some (zi x2)] w
noncomputable def g_X8_in (r : List ZV) (w : Wd) : Option (Int32 × Wd) := pI r fun x0 r => pI r fun x1 r => pI r fun x2 r => pE r (f_X8_in x0 x1 x2 w)
set_option maxRecDepth 20000 in
theorem e_X8_in (x0 : Int32) (x1 : Int32) (x2 : Int32) (w : Wd) : f_X8_in x0 x1 x2 w = (if x0 < x1 then (zb (Int32.ofInt 0) (some ((Int32.ofInt 0), w))) else (if x2 < x0 then (zb (Int32.ofInt 0) (some ((Int32.ofInt 0), w))) else (zb (Int32.ofInt 1) (some ((Int32.ofInt 1), w))))) := (zev_eq (lf_X8_in _) _ _ _ _).trans rfl
theorem k_X8_in : zLkS yX8_in cX8_in 3 (some .boolean) 3 := ⟨(tw4 (i := 35) rfl), (tw1 (i := 9) rfl), (tw4 (i := 36) rfl), by decide, by decide, by decide +kernel⟩
set_option maxHeartbeats 4000000 in
set_option maxRecDepth 20000 in
theorem a_X8_in {l : Launch} {D : va_G} {ad : Nat → Nat → Nat} {cA : Nat → ClassId} (hI : zInj ad) {ρ : Type} (X : ρ) : zAns l D ad cA yX8_in cX8_in 3 (some .boolean) 0 0 X (fun _ => True) (cI g_X8_in) := by
  intro as w Kf hv h
  obtain ⟨q, h1, h2⟩ := oC_inv h
  unfold g_X8_in at h1
  obtain ⟨x0, r, rfl, h1_1⟩ := pI_inv h1
  obtain ⟨x1, r, rfl, h1_2⟩ := pI_inv h1_1
  obtain ⟨x2, r, rfl, h1_3⟩ := pI_inv h1_2
  obtain ⟨rfl, h3⟩ := pE_inv h1_3
  exact ⟨_, _, trivial, h2, trivial, zmeth (cM := cm_X8_in _) (bl := bl_X8_in) (ret := rZ) hI (by decide) fl_X8 ll_X8 (lf_X8_in _) bk_X8_in (Nat.le_of_ble_eq_true rfl) hv (fun hF => zml_nil) (fun hF hr hk => zrt_Z hF hr hk) h3⟩
def bl_X8_copies : ZBl := [(0, none, [(.iconst 0, 1, 0, []), (.istore 4, 2, 0, [])]), (3, some [true, true, true, true, true], [(.iload 4, 2, 0, []), (.bipush 53, 2, 0, []), (.if_icmp .ge 21, 3, 28, [])]), (10, none, [(.aload_n 2, 1, 0, []), (.iload_n 3, 1, 0, []), (.iload 4, 2, 0, []), (.iadd, 1, 0, []), (.aload_n 0, 1, 0, []), (.iload_n 1, 1, 0, []), (.iload 4, 2, 0, []), (.iadd, 1, 0, []), (.iaload, 1, 0, []), (.iastore, 1, 0, []), (.iinc 4 1, 3, 0, []), (.goto (-22), 3, 3, [])]), (28, none, [(.return_, 1, 0, [])])]
set_option maxRecDepth 20000 in
theorem bk_X8_copies : zdb cX8_copies 5 bl_X8_copies = true := by decide +kernel
noncomputable def cm_X8_copies (ρ : Type) : List (Nat × Nat × ZCall ρ) := []
theorem lf_X8_copies (ρ : Type) : LfM (cm_X8_copies ρ) := lfm_of lfm_n
noncomputable def x_X8_copies : ZJ Wd := zev cF_X8 cL_X8 bl_X8_copies (cm_X8_copies Wd) rV
noncomputable def f_X8_copies (k0 : Nat) (x1 : Int32) (k2 : Nat) (x3 : Int32) (w : Wd) : Option Wd := x_X8_copies 0 [] [some (zr 30 k0), some (zi x1), some (zr 30 k2), some (zi x3), none] w
noncomputable def g_X8_copies (r : List ZV) (w : Wd) : Option Wd := pR r fun tk0 k0 r => zif (Nat.beq tk0 30) (pI r fun x1 r => pR r fun tk2 k2 r => zif (Nat.beq tk2 30) (pI r fun x3 r => pE r (f_X8_copies k0 x1 k2 x3 w)))
set_option maxRecDepth 20000 in
theorem e_X8_copies (k0 : Nat) (x1 : Int32) (k2 : Nat) (x3 : Int32) (w : Wd) : f_X8_copies k0 x1 k2 x3 w = (x_X8_copies 3 [] [some (zr 30 k0), some (zi x1), some (zr 30 k2), some (zi x3), some (zi (Int32.ofInt 0))] w) := (zev_eq (lf_X8_copies _) _ _ _ _).trans rfl
set_option maxRecDepth 20000 in
theorem e_X8_copies_3 (k0 : Nat) (x1 : Int32) (k2 : Nat) (x3 : Int32) (x4 : Int32) (w : Wd) : x_X8_copies 3 [] [some (zr 30 k0), some (zi x1), some (zr 30 k2), some (zi x3), some (zi x4)] w = (if (Int32.ofInt 53) ≤ x4 then (some w) else (chk (x1 + x4) (if k0 = 1 then 318 else if k0 = 2 then 106 else 53) (chk (x3 + x4) (if k2 = 1 then 318 else if k2 = 2 then 106 else 53) (x_X8_copies 3 [] [some (zr 30 k0), some (zi x1), some (zr 30 k2), some (zi x3), some (zi (x4 + (Int32.ofInt 1)))] (wI w 30 k2 (x3 + x4).toNatClampNeg (w.1 30 k0 (x1 + x4).toNatClampNeg)))))) := (zev_eq (lf_X8_copies _) _ _ _ _).trans rfl
theorem k_X8_copies : zLkS yX8_copies cX8_copies 5 none 4 := ⟨(tw4 (i := 60) rfl), (tw1 (i := 9) rfl), (tw4 (i := 61) rfl), by decide, by decide, by decide +kernel⟩
set_option maxHeartbeats 4000000 in
set_option maxRecDepth 20000 in
theorem a_X8_copies {l : Launch} {D : va_G} {ad : Nat → Nat → Nat} {cA : Nat → ClassId} (hI : zInj ad) {ρ : Type} (X : ρ) : zAns l D ad cA yX8_copies cX8_copies 5 none 0 0 X (fun _ => True) (cV g_X8_copies) := by
  intro as w Kf hv h
  obtain ⟨q, h1, h2⟩ := oC_inv h
  unfold g_X8_copies at h1
  obtain ⟨tk0, k0, r, rfl, h1_1⟩ := pR_inv h1
  obtain ⟨bk0, h1_1z⟩ := zif_inv h1_1
  cases Nat.eq_of_beq_eq_true bk0
  obtain ⟨x1, r, rfl, h1_2⟩ := pI_inv h1_1z
  obtain ⟨tk2, k2, r, rfl, h1_3⟩ := pR_inv h1_2
  obtain ⟨bk2, h1_3z⟩ := zif_inv h1_3
  cases Nat.eq_of_beq_eq_true bk2
  obtain ⟨x3, r, rfl, h1_4⟩ := pI_inv h1_3z
  obtain ⟨rfl, h3⟩ := pE_inv h1_4
  exact ⟨_, _, trivial, h2, trivial, zmeth (cM := cm_X8_copies _) (bl := bl_X8_copies) (ret := rV) hI (by decide) fl_X8 ll_X8 (lf_X8_copies _) bk_X8_copies (Nat.le_of_ble_eq_true rfl) hv (fun hF => zml_nil) (fun hF hr hk => zrt_V hF hr hk) h3⟩
def bl_X8_records : ZBl := [(0, none, [(.aload_n 0, 1, 0, []), (.getfield 57, 3, 0, []), (.bipush 6, 2, 0, []), (.if_icmp .ne 38, 3, 44, [])]), (9, none, [(.iconst 0, 1, 0, []), (.istore_n 2, 1, 0, [])]), (11, some [true, true, true], [(.iload_n 2, 1, 0, []), (.sipush 265, 3, 0, []), (.if_icmp .ge 24, 3, 39, [])]), (18, none, [(.aload_n 0, 1, 0, []), (.getfield 13, 3, 0, []), (.iload_n 2, 1, 0, []), (.aload_n 0, 1, 0, []), (.getfield 13, 3, 0, []), (.iload_n 2, 1, 0, []), (.bipush 53, 2, 0, []), (.iadd, 1, 0, []), (.iaload, 1, 0, []), (.iastore, 1, 0, []), (.iinc 2 1, 3, 0, []), (.goto (-25), 3, 11, [])]), (39, none, [(.aload_n 0, 1, 0, []), (.iconst 5, 1, 0, []), (.putfield 57, 3, 0, [])]), (44, some [true, true, false], [(.aload_n 1, 1, 0, []), (.iconst 0, 1, 0, []), (.aload_n 0, 1, 0, []), (.getfield 13, 3, 0, []), (.aload_n 0, 1, 0, []), (.getfield 57, 3, 0, []), (.bipush 53, 2, 0, []), (.imul, 1, 0, []), (.invokestatic 61, 3, 0, []), (.aload_n 0, 1, 0, []), (.dup, 1, 0, []), (.getfield 57, 3, 0, []), (.iconst 1, 1, 0, []), (.iadd, 1, 0, []), (.putfield 57, 3, 0, []), (.return_, 1, 0, [])])]
set_option maxRecDepth 20000 in
theorem bk_X8_records : zdb cX8_records 3 bl_X8_records = true := by decide +kernel
noncomputable def cm_X8_records (ρ : Type) : List (Nat × Nat × ZCall ρ) := [(123, 4, cV g_X8_copies)]
theorem lf_X8_records (ρ : Type) : LfM (cm_X8_records ρ) := lfm_of (lfm_cons (lfc_V g_X8_copies) lfm_n)
noncomputable def x_X8_records : ZJ Wd := zev cF_X8 cL_X8 bl_X8_records (cm_X8_records Wd) rV
noncomputable def f_X8_records (k0 : Nat) (k1 : Nat) (w : Wd) : Option Wd := x_X8_records 0 [] [some (zr 8 k0), some (zr 30 k1), none] w
noncomputable def g_X8_records (r : List ZV) (w : Wd) : Option Wd := pR r fun tk0 k0 r => zif (Nat.beq tk0 8) (pR r fun tk1 k1 r => zif (Nat.beq tk1 30) (pE r (f_X8_records k0 k1 w)))
set_option maxRecDepth 20000 in
theorem e_X8_records (k0 : Nat) (k1 : Nat) (w : Wd) : f_X8_records k0 k1 w = (if (w.1 8 k0 2) = (Int32.ofInt 6) then (x_X8_records 11 [] [some (zr 8 k0), some (zr 30 k1), some (zi (Int32.ofInt 0))] w) else (x_X8_records 44 [] [some (zr 8 k0), some (zr 30 k1), none] w)) := (zev_eq (lf_X8_records _) _ _ _ _).trans rfl
set_option maxRecDepth 20000 in
theorem e_X8_records_44 (k0 : Nat) (k1 : Nat) (w : Wd) : x_X8_records 44 [] [some (zr 8 k0), some (zr 30 k1), none] w = (oC (f_X8_copies k1 (Int32.ofInt 0) 1 ((w.1 8 k0 2) * (Int32.ofInt 53)) w) fun q1 => (some (wI q1 8 k0 2 ((q1.1 8 k0 2) + (Int32.ofInt 1))))) := (zev_eq (lf_X8_records _) _ _ _ _).trans rfl
set_option maxRecDepth 20000 in
theorem e_X8_records_11 (k0 : Nat) (k1 : Nat) (x2 : Int32) (w : Wd) : x_X8_records 11 [] [some (zr 8 k0), some (zr 30 k1), some (zi x2)] w = (if (Int32.ofInt 265) ≤ x2 then (x_X8_records 44 [] [some (zr 8 k0), some (zr 30 k1), none] (wI w 8 k0 2 (Int32.ofInt 5))) else (chk (x2 + (Int32.ofInt 53)) 318 (chk x2 318 (x_X8_records 11 [] [some (zr 8 k0), some (zr 30 k1), some (zi (x2 + (Int32.ofInt 1)))] (wI w 30 1 x2.toNatClampNeg (w.1 30 1 (x2 + (Int32.ofInt 53)).toNatClampNeg)))))) := (zev_eq (lf_X8_records _) _ _ _ _).trans rfl
theorem k_X8_records : zLkV yX8_records cX8_records 3 none 8 1 := ⟨(tw4 (i := 72) rfl), (twp (n := 22) (List.mem_append_right _ (List.mem_append_left _ (List.mem_of_getElem? (i := 8) rfl)))), (tw1 (i := 9) rfl), (tw4 (i := 73) rfl), ⟨_, _, rfl⟩, rfl, by decide, by decide, by decide +kernel⟩
set_option maxHeartbeats 4000000 in
set_option maxRecDepth 20000 in
theorem a_X8_records {l : Launch} {D : va_G} {ad : Nat → Nat → Nat} {cA : Nat → ClassId} (hI : zInj ad) {ρ : Type} (X : ρ) : zAns l D ad cA yX8_records cX8_records 3 none 1 24 X (fun as => ∃ i as', as = zr 8 i :: as') (cV g_X8_records) := by
  intro as w Kf hv h
  obtain ⟨q, h1, h2⟩ := oC_inv h
  unfold g_X8_records at h1
  obtain ⟨tk0, k0, r, rfl, h1_1⟩ := pR_inv h1
  obtain ⟨bk0, h1_1z⟩ := zif_inv h1_1
  cases Nat.eq_of_beq_eq_true bk0
  obtain ⟨tk1, k1, r, rfl, h1_2⟩ := pR_inv h1_1z
  obtain ⟨bk1, h1_2z⟩ := zif_inv h1_2
  cases Nat.eq_of_beq_eq_true bk1
  obtain ⟨rfl, h3⟩ := pE_inv h1_2z
  exact ⟨_, _, ⟨_, _, rfl⟩, h2, trivial, zmeth (cM := cm_X8_records _) (bl := bl_X8_records) (ret := rV) hI (by decide) fl_X8 ll_X8 (lf_X8_records _) bk_X8_records (Nat.le_of_ble_eq_true rfl) hv (fun hF => (zml_cons (zcs hF ⟨Nat.le_refl _, Nat.le_refl _⟩ rfl (tw4 (i := 59) rfl) k_X8_copies ⟨by decide, by decide⟩ (a_X8_copies hI _)) zml_nil)) (fun hF hr hk => zrt_V hF hr hk) h3⟩
def bl_X8_isThread : ZBl := [(0, none, [(.iload_n 0, 1, 0, []), (.iconst 0, 1, 0, []), (.iconst 3, 1, 0, []), (.invokestatic 65, 3, 0, []), (.ireturn, 1, 0, [])])]
set_option maxRecDepth 20000 in
theorem bk_X8_isThread : zdb cX8_isThread 1 bl_X8_isThread = true := by decide +kernel
noncomputable def cm_X8_isThread (ρ : Type) : List (Nat × Nat × ZCall ρ) := [(131, 3, cI g_X8_in)]
theorem lf_X8_isThread (ρ : Type) : LfM (cm_X8_isThread ρ) := lfm_of (lfm_cons (lfc_I g_X8_in) lfm_n)
noncomputable def x_X8_isThread : ZJ (Int32 × Wd) := zev cF_X8 cL_X8 bl_X8_isThread (cm_X8_isThread (Int32 × Wd)) rZ
noncomputable def f_X8_isThread (x0 : Int32) (w : Wd) : Option (Int32 × Wd) := x_X8_isThread 0 [] [some (zi x0)] w
noncomputable def g_X8_isThread (r : List ZV) (w : Wd) : Option (Int32 × Wd) := pI r fun x0 r => pE r (f_X8_isThread x0 w)
set_option maxRecDepth 20000 in
theorem e_X8_isThread (x0 : Int32) (w : Wd) : f_X8_isThread x0 w = (oC (f_X8_in x0 (Int32.ofInt 0) (Int32.ofInt 3) w) fun q1 => (zb q1.1 (some (q1.1, q1.2)))) := (zev_eq (lf_X8_isThread _) _ _ _ _).trans rfl
theorem k_X8_isThread : zLkS yX8_isThread cX8_isThread 1 (some .boolean) 1 := ⟨(tw4 (i := 57) rfl), (tw1 (i := 9) rfl), (tw4 (i := 58) rfl), by decide, by decide, by decide +kernel⟩
set_option maxHeartbeats 4000000 in
set_option maxRecDepth 20000 in
theorem a_X8_isThread {l : Launch} {D : va_G} {ad : Nat → Nat → Nat} {cA : Nat → ClassId} (hI : zInj ad) {ρ : Type} (X : ρ) : zAns l D ad cA yX8_isThread cX8_isThread 1 (some .boolean) 1 22 X (fun _ => True) (cI g_X8_isThread) := by
  intro as w Kf hv h
  obtain ⟨q, h1, h2⟩ := oC_inv h
  unfold g_X8_isThread at h1
  obtain ⟨x0, r, rfl, h1_1⟩ := pI_inv h1
  obtain ⟨rfl, h3⟩ := pE_inv h1_1
  exact ⟨_, _, trivial, h2, trivial, zmeth (cM := cm_X8_isThread _) (bl := bl_X8_isThread) (ret := rZ) hI (by decide) fl_X8 ll_X8 (lf_X8_isThread _) bk_X8_isThread (Nat.le_of_ble_eq_true rfl) hv (fun hF => (zml_cons (zcs hF ⟨Nat.le_refl _, Nat.le_refl _⟩ rfl (tw4 (i := 34) rfl) k_X8_in ⟨by decide, by decide⟩ (a_X8_in hI _)) zml_nil)) (fun hF hr hk => zrt_Z hF hr hk) h3⟩
def bl_X8_step : ZBl := [(0, none, [(.aload_n 0, 1, 0, []), (.getfield 7, 3, 0, []), (.iconst 4, 1, 0, []), (.bipush 6, 2, 0, []), (.iload_n 1, 1, 0, []), (.imul, 1, 0, []), (.iadd, 1, 0, []), (.iload_n 2, 1, 0, []), (.iadd, 1, 0, []), (.iaload, 1, 0, []), (.ireturn, 1, 0, [])])]
set_option maxRecDepth 20000 in
theorem bk_X8_step : zdb cX8_step 3 bl_X8_step = true := by decide +kernel
noncomputable def cm_X8_step (ρ : Type) : List (Nat × Nat × ZCall ρ) := []
theorem lf_X8_step (ρ : Type) : LfM (cm_X8_step ρ) := lfm_of lfm_n
noncomputable def x_X8_step : ZJ (Int32 × Wd) := zev cF_X8 cL_X8 bl_X8_step (cm_X8_step (Int32 × Wd)) rI
noncomputable def f_X8_step (k0 : Nat) (x1 : Int32) (x2 : Int32) (w : Wd) : Option (Int32 × Wd) := x_X8_step 0 [] [some (zr 8 k0), some (zi x1), some (zi x2)] w
noncomputable def g_X8_step (r : List ZV) (w : Wd) : Option (Int32 × Wd) := pR r fun tk0 k0 r => zif (Nat.beq tk0 8) (pI r fun x1 r => pI r fun x2 r => pE r (f_X8_step k0 x1 x2 w))
set_option maxRecDepth 20000 in
theorem e_X8_step (k0 : Nat) (x1 : Int32) (x2 : Int32) (w : Wd) : f_X8_step k0 x1 x2 w = (chk (((Int32.ofInt 4) + ((Int32.ofInt 6) * x1)) + x2) 53 (some ((w.1 30 0 (((Int32.ofInt 4) + ((Int32.ofInt 6) * x1)) + x2).toNatClampNeg), w))) := (zev_eq (lf_X8_step _) _ _ _ _).trans rfl
theorem k_X8_step : zLkV yX8_step cX8_step 3 (some .int) 8 2 := ⟨(tw4 (i := 68) rfl), (twp (n := 22) (List.mem_append_right _ (List.mem_append_left _ (List.mem_of_getElem? (i := 7) rfl)))), (tw1 (i := 9) rfl), (tw4 (i := 69) rfl), ⟨_, _, rfl⟩, rfl, by decide, by decide, by decide +kernel⟩
set_option maxHeartbeats 4000000 in
set_option maxRecDepth 20000 in
theorem a_X8_step {l : Launch} {D : va_G} {ad : Nat → Nat → Nat} {cA : Nat → ClassId} (hI : zInj ad) {ρ : Type} (X : ρ) : zAns l D ad cA yX8_step cX8_step 3 (some .int) 0 0 X (fun as => ∃ i as', as = zr 8 i :: as') (cI g_X8_step) := by
  intro as w Kf hv h
  obtain ⟨q, h1, h2⟩ := oC_inv h
  unfold g_X8_step at h1
  obtain ⟨tk0, k0, r, rfl, h1_1⟩ := pR_inv h1
  obtain ⟨bk0, h1_1z⟩ := zif_inv h1_1
  cases Nat.eq_of_beq_eq_true bk0
  obtain ⟨x1, r, rfl, h1_2⟩ := pI_inv h1_1z
  obtain ⟨x2, r, rfl, h1_3⟩ := pI_inv h1_2
  obtain ⟨rfl, h3⟩ := pE_inv h1_3
  exact ⟨_, _, ⟨_, _, rfl⟩, h2, trivial, zmeth (cM := cm_X8_step _) (bl := bl_X8_step) (ret := rI) hI (by decide) fl_X8 ll_X8 (lf_X8_step _) bk_X8_step (Nat.le_of_ble_eq_true rfl) hv (fun hF => zml_nil) (fun hF hr hk => zrt_I hF hr hk) h3⟩
def bl_X8_stepsAll : ZBl := [(0, none, [(.aload_n 0, 1, 0, []), (.getfield 7, 3, 0, []), (.iconst 0, 1, 0, []), (.iaload, 1, 0, []), (.aload_n 0, 1, 0, []), (.getfield 7, 3, 0, []), (.iconst 1, 1, 0, []), (.iaload, 1, 0, []), (.iadd, 1, 0, []), (.aload_n 0, 1, 0, []), (.getfield 7, 3, 0, []), (.iconst 2, 1, 0, []), (.iaload, 1, 0, []), (.iadd, 1, 0, []), (.aload_n 0, 1, 0, []), (.getfield 7, 3, 0, []), (.iconst 3, 1, 0, []), (.iaload, 1, 0, []), (.iadd, 1, 0, []), (.ireturn, 1, 0, [])])]
set_option maxRecDepth 20000 in
theorem bk_X8_stepsAll : zdb cX8_stepsAll 1 bl_X8_stepsAll = true := by decide +kernel
noncomputable def cm_X8_stepsAll (ρ : Type) : List (Nat × Nat × ZCall ρ) := []
theorem lf_X8_stepsAll (ρ : Type) : LfM (cm_X8_stepsAll ρ) := lfm_of lfm_n
noncomputable def x_X8_stepsAll : ZJ (Int32 × Wd) := zev cF_X8 cL_X8 bl_X8_stepsAll (cm_X8_stepsAll (Int32 × Wd)) rI
noncomputable def f_X8_stepsAll (k0 : Nat) (w : Wd) : Option (Int32 × Wd) := x_X8_stepsAll 0 [] [some (zr 8 k0)] w
noncomputable def g_X8_stepsAll (r : List ZV) (w : Wd) : Option (Int32 × Wd) := pR r fun tk0 k0 r => zif (Nat.beq tk0 8) (pE r (f_X8_stepsAll k0 w))
set_option maxRecDepth 20000 in
theorem e_X8_stepsAll (k0 : Nat) (w : Wd) : f_X8_stepsAll k0 w = (chk (Int32.ofInt 0) 53 (chk (Int32.ofInt 1) 53 (chk (Int32.ofInt 2) 53 (chk (Int32.ofInt 3) 53 (some (((((w.1 30 0 (Int32.ofInt 0).toNatClampNeg) + (w.1 30 0 (Int32.ofInt 1).toNatClampNeg)) + (w.1 30 0 (Int32.ofInt 2).toNatClampNeg)) + (w.1 30 0 (Int32.ofInt 3).toNatClampNeg)), w)))))) := (zev_eq (lf_X8_stepsAll _) _ _ _ _).trans rfl
theorem k_X8_stepsAll : zLkV yX8_stepsAll cX8_stepsAll 1 (some .int) 8 0 := ⟨(tw4 (i := 234) rfl), (twp (n := 22) (List.mem_append_right _ (List.mem_append_right _ (List.mem_of_getElem? (i := 15) rfl)))), (tw1 (i := 9) rfl), (tw4 (i := 235) rfl), ⟨_, _, rfl⟩, rfl, by decide, by decide, by decide +kernel⟩
set_option maxHeartbeats 4000000 in
set_option maxRecDepth 20000 in
theorem a_X8_stepsAll {l : Launch} {D : va_G} {ad : Nat → Nat → Nat} {cA : Nat → ClassId} (hI : zInj ad) {ρ : Type} (X : ρ) : zAns l D ad cA yX8_stepsAll cX8_stepsAll 1 (some .int) 0 0 X (fun as => ∃ i as', as = zr 8 i :: as') (cI g_X8_stepsAll) := by
  intro as w Kf hv h
  obtain ⟨q, h1, h2⟩ := oC_inv h
  unfold g_X8_stepsAll at h1
  obtain ⟨tk0, k0, r, rfl, h1_1⟩ := pR_inv h1
  obtain ⟨bk0, h1_1z⟩ := zif_inv h1_1
  cases Nat.eq_of_beq_eq_true bk0
  obtain ⟨rfl, h3⟩ := pE_inv h1_1z
  exact ⟨_, _, ⟨_, _, rfl⟩, h2, trivial, zmeth (cM := cm_X8_stepsAll _) (bl := bl_X8_stepsAll) (ret := rI) hI (by decide) fl_X8 ll_X8 (lf_X8_stepsAll _) bk_X8_stepsAll (Nat.le_of_ble_eq_true rfl) hv (fun hF => zml_nil) (fun hF hr hk => zrt_I hF hr hk) h3⟩
def bl_X8_commute : ZBl := [(0, none, [(.iload_n 0, 1, 0, []), (.iconst 4, 1, 0, []), (.idiv, 1, 0, []), (.iconst 2, 1, 0, []), (.if_icmp .ge 14, 3, 18, [])]), (7, none, [(.iload_n 1, 1, 0, []), (.iconst 4, 1, 0, []), (.idiv, 1, 0, []), (.iconst 2, 1, 0, []), (.if_icmp .ge 7, 3, 18, [])]), (14, none, [(.iconst 1, 1, 0, []), (.goto 4, 3, 19, [])]), (18, none, [(.iconst 0, 1, 0, [])]), (19, some [true, true, false, false, false], [(.istore_n 2, 1, 0, []), (.iload_n 0, 1, 0, []), (.iconst 4, 1, 0, []), (.idiv, 1, 0, []), (.iconst 1, 1, 0, []), (.if_icmp .le 14, 3, 38, [])]), (27, none, [(.iload_n 1, 1, 0, []), (.iconst 4, 1, 0, []), (.idiv, 1, 0, []), (.iconst 1, 1, 0, []), (.if_icmp .le 7, 3, 38, [])]), (34, none, [(.iconst 1, 1, 0, []), (.goto 4, 3, 39, [])]), (38, none, [(.iconst 0, 1, 0, [])]), (39, none, [(.istore_n 3, 1, 0, []), (.iload_n 0, 1, 0, []), (.iconst 4, 1, 0, []), (.irem, 1, 0, []), (.iload_n 1, 1, 0, []), (.iconst 4, 1, 0, []), (.irem, 1, 0, []), (.if_icmp .ne 7, 3, 53, [])]), (49, none, [(.iconst 1, 1, 0, []), (.goto 4, 3, 54, [])]), (53, none, [(.iconst 0, 1, 0, [])]), (54, some [true, true, true, true, false], [(.istore 4, 2, 0, []), (.iload 4, 2, 0, []), (.ifCond .eq 25, 3, 83, [])]), (61, none, [(.iload_n 3, 1, 0, []), (.ifCond .ne 25, 3, 87, [])]), (65, none, [(.iload_n 2, 1, 0, []), (.ifCond .eq 17, 3, 83, [])]), (69, none, [(.iload_n 0, 1, 0, []), (.iconst 4, 1, 0, []), (.idiv, 1, 0, []), (.iconst 1, 1, 0, []), (.if_icmp .eq 14, 3, 87, [])]), (76, none, [(.iload_n 1, 1, 0, []), (.iconst 4, 1, 0, []), (.idiv, 1, 0, []), (.iconst 1, 1, 0, []), (.if_icmp .eq 7, 3, 87, [])]), (83, none, [(.iconst 1, 1, 0, []), (.goto 4, 3, 88, [])]), (87, none, [(.iconst 0, 1, 0, [])]), (88, none, [(.ireturn, 1, 0, [])])]
set_option maxRecDepth 20000 in
theorem bk_X8_commute : zdb cX8_commute 5 bl_X8_commute = true := by decide +kernel
noncomputable def cm_X8_commute (ρ : Type) : List (Nat × Nat × ZCall ρ) := []
theorem lf_X8_commute (ρ : Type) : LfM (cm_X8_commute ρ) := lfm_of lfm_n
noncomputable def x_X8_commute : ZJ (Int32 × Wd) := zev cF_X8 cL_X8 bl_X8_commute (cm_X8_commute (Int32 × Wd)) rZ
noncomputable def f_X8_commute (x0 : Int32) (x1 : Int32) (w : Wd) : Option (Int32 × Wd) := x_X8_commute 0 [] [some (zi x0), some (zi x1), none, none, none] w
noncomputable def g_X8_commute (r : List ZV) (w : Wd) : Option (Int32 × Wd) := pI r fun x0 r => pI r fun x1 r => pE r (f_X8_commute x0 x1 w)
set_option maxRecDepth 20000 in
theorem e_X8_commute (x0 : Int32) (x1 : Int32) (w : Wd) : f_X8_commute x0 x1 w = (if (Int32.ofInt 4) = 0 then none else (if (Int32.ofInt 2) ≤ (x0 / (Int32.ofInt 4)) then (x_X8_commute 19 [zi (Int32.ofInt 0)] [some (zi x0), some (zi x1), none, none, none] w) else (if (Int32.ofInt 4) = 0 then none else (if (Int32.ofInt 2) ≤ (x1 / (Int32.ofInt 4)) then (x_X8_commute 19 [zi (Int32.ofInt 0)] [some (zi x0), some (zi x1), none, none, none] w) else (x_X8_commute 19 [zi (Int32.ofInt 1)] [some (zi x0), some (zi x1), none, none, none] w))))) := (zev_eq (lf_X8_commute _) _ _ _ _).trans rfl
set_option maxRecDepth 20000 in
theorem e_X8_commute_19 (s0 : Int32) (x0 : Int32) (x1 : Int32) (w : Wd) : x_X8_commute 19 [zi s0] [some (zi x0), some (zi x1), none, none, none] w = (if (Int32.ofInt 4) = 0 then none else (if (x0 / (Int32.ofInt 4)) ≤ (Int32.ofInt 1) then (if (Int32.ofInt 4) = 0 then none else (if (Int32.ofInt 4) = 0 then none else (if (x0 - x0 / (Int32.ofInt 4) * (Int32.ofInt 4)) = (x1 - x1 / (Int32.ofInt 4) * (Int32.ofInt 4)) then (x_X8_commute 54 [zi (Int32.ofInt 1)] [some (zi x0), some (zi x1), some (zi s0), some (zi (Int32.ofInt 0)), none] w) else (x_X8_commute 54 [zi (Int32.ofInt 0)] [some (zi x0), some (zi x1), some (zi s0), some (zi (Int32.ofInt 0)), none] w)))) else (if (Int32.ofInt 4) = 0 then none else (if (x1 / (Int32.ofInt 4)) ≤ (Int32.ofInt 1) then (if (Int32.ofInt 4) = 0 then none else (if (Int32.ofInt 4) = 0 then none else (if (x0 - x0 / (Int32.ofInt 4) * (Int32.ofInt 4)) = (x1 - x1 / (Int32.ofInt 4) * (Int32.ofInt 4)) then (x_X8_commute 54 [zi (Int32.ofInt 1)] [some (zi x0), some (zi x1), some (zi s0), some (zi (Int32.ofInt 0)), none] w) else (x_X8_commute 54 [zi (Int32.ofInt 0)] [some (zi x0), some (zi x1), some (zi s0), some (zi (Int32.ofInt 0)), none] w)))) else (if (Int32.ofInt 4) = 0 then none else (if (Int32.ofInt 4) = 0 then none else (if (x0 - x0 / (Int32.ofInt 4) * (Int32.ofInt 4)) = (x1 - x1 / (Int32.ofInt 4) * (Int32.ofInt 4)) then (x_X8_commute 54 [zi (Int32.ofInt 1)] [some (zi x0), some (zi x1), some (zi s0), some (zi (Int32.ofInt 1)), none] w) else (x_X8_commute 54 [zi (Int32.ofInt 0)] [some (zi x0), some (zi x1), some (zi s0), some (zi (Int32.ofInt 1)), none] w)))))))) := (zev_eq (lf_X8_commute _) _ _ _ _).trans rfl
set_option maxRecDepth 20000 in
theorem e_X8_commute_54 (s0 : Int32) (x0 : Int32) (x1 : Int32) (x2 : Int32) (x3 : Int32) (w : Wd) : x_X8_commute 54 [zi s0] [some (zi x0), some (zi x1), some (zi x2), some (zi x3), none] w = (if s0 = 0 then (zb (Int32.ofInt 1) (some ((Int32.ofInt 1), w))) else (if x3 = 0 then (if x2 = 0 then (zb (Int32.ofInt 1) (some ((Int32.ofInt 1), w))) else (if (Int32.ofInt 4) = 0 then none else (if (x0 / (Int32.ofInt 4)) = (Int32.ofInt 1) then (zb (Int32.ofInt 0) (some ((Int32.ofInt 0), w))) else (if (Int32.ofInt 4) = 0 then none else (if (x1 / (Int32.ofInt 4)) = (Int32.ofInt 1) then (zb (Int32.ofInt 0) (some ((Int32.ofInt 0), w))) else (zb (Int32.ofInt 1) (some ((Int32.ofInt 1), w)))))))) else (zb (Int32.ofInt 0) (some ((Int32.ofInt 0), w))))) := (zev_eq (lf_X8_commute _) _ _ _ _).trans rfl
theorem k_X8_commute : zLkS yX8_commute cX8_commute 5 (some .boolean) 2 := ⟨(tw4 (i := 154) rfl), (tw1 (i := 9) rfl), (tw4 (i := 155) rfl), by decide, by decide, by decide +kernel⟩
set_option maxHeartbeats 4000000 in
set_option maxRecDepth 20000 in
theorem a_X8_commute {l : Launch} {D : va_G} {ad : Nat → Nat → Nat} {cA : Nat → ClassId} (hI : zInj ad) {ρ : Type} (X : ρ) : zAns l D ad cA yX8_commute cX8_commute 5 (some .boolean) 0 0 X (fun _ => True) (cI g_X8_commute) := by
  intro as w Kf hv h
  obtain ⟨q, h1, h2⟩ := oC_inv h
  unfold g_X8_commute at h1
  obtain ⟨x0, r, rfl, h1_1⟩ := pI_inv h1
  obtain ⟨x1, r, rfl, h1_2⟩ := pI_inv h1_1
  obtain ⟨rfl, h3⟩ := pE_inv h1_2
  exact ⟨_, _, trivial, h2, trivial, zmeth (cM := cm_X8_commute _) (bl := bl_X8_commute) (ret := rZ) hI (by decide) fl_X8 ll_X8 (lf_X8_commute _) bk_X8_commute (Nat.le_of_ble_eq_true rfl) hv (fun hF => zml_nil) (fun hF hr hk => zrt_Z hF hr hk) h3⟩
def bl_X8_put : ZBl := [(0, none, [(.iconst 0, 1, 0, []), (.istore_n 3, 1, 0, [])]), (2, some [true, true, false, true, false], [(.iload_n 3, 1, 0, []), (.bipush 8, 2, 0, []), (.if_icmp .ge 52, 3, 57, [])]), (8, none, [(.lload_n 1, 1, 0, []), (.bipush 8, 2, 0, []), (.iload_n 3, 1, 0, []), (.imul, 1, 0, []), (.lushr, 1, 0, []), (.ldc2_w 69, 3, 0, []), (.land, 1, 0, []), (.lconst 0, 1, 0, []), (.lcmp, 1, 0, []), (.ifCond .eq 37, 3, 57, [])]), (23, none, [(.lload_n 1, 1, 0, []), (.bipush 8, 2, 0, []), (.iload_n 3, 1, 0, []), (.imul, 1, 0, []), (.lushr, 1, 0, []), (.ldc2_w 69, 3, 0, []), (.land, 1, 0, []), (.l2i, 1, 0, []), (.istore 4, 2, 0, []), (.iload 4, 2, 0, []), (.bipush 33, 2, 0, []), (.bipush 126, 2, 0, []), (.invokestatic 65, 3, 0, []), (.ifCond .ne 6, 3, 51, [])]), (48, none, [(.bipush (-2), 2, 0, []), (.ireturn, 1, 0, [])]), (51, none, [(.iinc 3 1, 3, 0, []), (.goto (-52), 3, 2, [])]), (57, some [true, true, false, true, false], [(.iload_n 3, 1, 0, []), (.ifCond .eq 20, 3, 78, [])]), (61, none, [(.iload_n 3, 1, 0, []), (.bipush 8, 2, 0, []), (.if_icmp .ge 17, 3, 81, [])]), (67, none, [(.lload_n 1, 1, 0, []), (.bipush 8, 2, 0, []), (.iload_n 3, 1, 0, []), (.imul, 1, 0, []), (.lushr, 1, 0, []), (.lconst 0, 1, 0, []), (.lcmp, 1, 0, []), (.ifCond .eq 6, 3, 81, [])]), (78, none, [(.bipush (-2), 2, 0, []), (.ireturn, 1, 0, [])]), (81, none, [(.aload_n 0, 1, 0, []), (.getfield 71, 3, 0, []), (.iload_n 3, 1, 0, []), (.iadd, 1, 0, []), (.bipush 40, 2, 0, []), (.if_icmp .le 6, 3, 95, [])]), (92, none, [(.bipush (-4), 2, 0, []), (.ireturn, 1, 0, [])]), (95, none, [(.iload_n 3, 1, 0, []), (.iconst 1, 1, 0, []), (.isub, 1, 0, []), (.istore 4, 2, 0, [])]), (100, some [true, true, false, false, true], [(.iload 4, 2, 0, []), (.ifCond .lt 40, 3, 142, [])]), (105, none, [(.aload_n 0, 1, 0, []), (.getfield 22, 3, 0, []), (.aload_n 0, 1, 0, []), (.getfield 71, 3, 0, []), (.lload_n 1, 1, 0, []), (.bipush 8, 2, 0, []), (.iload 4, 2, 0, []), (.imul, 1, 0, []), (.lushr, 1, 0, []), (.ldc2_w 69, 3, 0, []), (.land, 1, 0, []), (.l2i, 1, 0, []), (.iastore, 1, 0, []), (.aload_n 0, 1, 0, []), (.dup, 1, 0, []), (.getfield 71, 3, 0, []), (.iconst 1, 1, 0, []), (.iadd, 1, 0, []), (.putfield 71, 3, 0, []), (.iinc 4 (-1), 3, 0, []), (.goto (-39), 3, 100, [])]), (142, none, [(.aload_n 0, 1, 0, []), (.getfield 71, 3, 0, []), (.ireturn, 1, 0, [])])]
set_option maxRecDepth 20000 in
theorem bk_X8_put : zdb cX8_put 5 bl_X8_put = true := by decide +kernel
noncomputable def cm_X8_put (ρ : Type) : List (Nat × Nat × ZCall ρ) := [(131, 3, cI g_X8_in)]
theorem lf_X8_put (ρ : Type) : LfM (cm_X8_put ρ) := lfm_of (lfm_cons (lfc_I g_X8_in) lfm_n)
noncomputable def x_X8_put : ZJ (Int32 × Wd) := zev cF_X8 cL_X8 bl_X8_put (cm_X8_put (Int32 × Wd)) rI
noncomputable def f_X8_put (k0 : Nat) (y1 : Int64) (w : Wd) : Option (Int32 × Wd) := x_X8_put 0 [] [some (zr 8 k0), some (zl y1), none, none, none] w
noncomputable def g_X8_put (r : List ZV) (w : Wd) : Option (Int32 × Wd) := pR r fun tk0 k0 r => zif (Nat.beq tk0 8) (pL r fun y1 r => pE r (f_X8_put k0 y1 w))
set_option maxRecDepth 20000 in
theorem e_X8_put (k0 : Nat) (y1 : Int64) (w : Wd) : f_X8_put k0 y1 w = (x_X8_put 2 [] [some (zr 8 k0), some (zl y1), none, some (zi (Int32.ofInt 0)), none] w) := (zev_eq (lf_X8_put _) _ _ _ _).trans rfl
set_option maxRecDepth 20000 in
theorem e_X8_put_2 (k0 : Nat) (y1 : Int64) (x3 : Int32) (w : Wd) : x_X8_put 2 [] [some (zr 8 k0), some (zl y1), none, some (zi x3), none] w = (if (Int32.ofInt 8) ≤ x3 then (x_X8_put 57 [] [some (zr 8 k0), some (zl y1), none, some (zi x3), none] w) else (if (lg_cmp ((y1.toUInt64 >>> (((Int32.ofInt 8) * x3).toInt64.toUInt64 &&& Int64.toUInt64 63)).toInt64 &&& (255 : Int64)) (Int64.ofInt 0)) = 0 then (x_X8_put 57 [] [some (zr 8 k0), some (zl y1), none, some (zi x3), none] w) else (oC (f_X8_in ((y1.toUInt64 >>> (((Int32.ofInt 8) * x3).toInt64.toUInt64 &&& Int64.toUInt64 63)).toInt64 &&& (255 : Int64)).toInt32 (Int32.ofInt 33) (Int32.ofInt 126) w) fun q1 => (if q1.1 = 0 then (some ((Int32.ofInt (-2)), q1.2)) else (x_X8_put 2 [] [some (zr 8 k0), some (zl y1), none, some (zi (x3 + (Int32.ofInt 1))), none] q1.2))))) := (zev_eq (lf_X8_put _) _ _ _ _).trans rfl
set_option maxRecDepth 20000 in
theorem e_X8_put_57 (k0 : Nat) (y1 : Int64) (x3 : Int32) (w : Wd) : x_X8_put 57 [] [some (zr 8 k0), some (zl y1), none, some (zi x3), none] w = (if x3 = 0 then (some ((Int32.ofInt (-2)), w)) else (if (Int32.ofInt 8) ≤ x3 then (if ((w.1 8 k0 7) + x3) ≤ (Int32.ofInt 40) then (x_X8_put 100 [] [some (zr 8 k0), some (zl y1), none, none, some (zi (x3 - (Int32.ofInt 1)))] w) else (some ((Int32.ofInt (-4)), w))) else (if (lg_cmp (y1.toUInt64 >>> (((Int32.ofInt 8) * x3).toInt64.toUInt64 &&& Int64.toUInt64 63)).toInt64 (Int64.ofInt 0)) = 0 then (if ((w.1 8 k0 7) + x3) ≤ (Int32.ofInt 40) then (x_X8_put 100 [] [some (zr 8 k0), some (zl y1), none, none, some (zi (x3 - (Int32.ofInt 1)))] w) else (some ((Int32.ofInt (-4)), w))) else (some ((Int32.ofInt (-2)), w))))) := (zev_eq (lf_X8_put _) _ _ _ _).trans rfl
set_option maxRecDepth 20000 in
theorem e_X8_put_100 (k0 : Nat) (y1 : Int64) (x4 : Int32) (w : Wd) : x_X8_put 100 [] [some (zr 8 k0), some (zl y1), none, none, some (zi x4)] w = (if x4 < 0 then (some ((w.1 8 k0 7), w)) else (chk (w.1 8 k0 7) 40 (x_X8_put 100 [] [some (zr 8 k0), some (zl y1), none, none, some (zi (x4 + (Int32.ofInt (-1))))] (wI (wI w 31 0 (w.1 8 k0 7).toNatClampNeg ((y1.toUInt64 >>> (((Int32.ofInt 8) * x4).toInt64.toUInt64 &&& Int64.toUInt64 63)).toInt64 &&& (255 : Int64)).toInt32) 8 k0 7 (((wI w 31 0 (w.1 8 k0 7).toNatClampNeg ((y1.toUInt64 >>> (((Int32.ofInt 8) * x4).toInt64.toUInt64 &&& Int64.toUInt64 63)).toInt64 &&& (255 : Int64)).toInt32).1 8 k0 7) + (Int32.ofInt 1)))))) := (zev_eq (lf_X8_put _) _ _ _ _).trans rfl
theorem k_X8_put : zLkV yX8_put cX8_put 5 (some .int) 8 1 := ⟨(tw4 (i := 30) rfl), (tw4 (i := 31) rfl), (tw1 (i := 9) rfl), (tw4 (i := 32) rfl), ⟨_, _, rfl⟩, rfl, by decide, by decide, by decide +kernel⟩
set_option maxHeartbeats 4000000 in
set_option maxRecDepth 20000 in
theorem a_X8_put {l : Launch} {D : va_G} {ad : Nat → Nat → Nat} {cA : Nat → ClassId} (hI : zInj ad) {ρ : Type} (X : ρ) : zAns l D ad cA yX8_put cX8_put 5 (some .int) 1 22 X (fun as => ∃ i as', as = zr 8 i :: as') (cI g_X8_put) := by
  intro as w Kf hv h
  obtain ⟨q, h1, h2⟩ := oC_inv h
  unfold g_X8_put at h1
  obtain ⟨tk0, k0, r, rfl, h1_1⟩ := pR_inv h1
  obtain ⟨bk0, h1_1z⟩ := zif_inv h1_1
  cases Nat.eq_of_beq_eq_true bk0
  obtain ⟨y1, r, rfl, h1_2⟩ := pL_inv h1_1z
  obtain ⟨rfl, h3⟩ := pE_inv h1_2
  exact ⟨_, _, ⟨_, _, rfl⟩, h2, trivial, zmeth (cM := cm_X8_put _) (bl := bl_X8_put) (ret := rI) hI (by decide) fl_X8 ll_X8 (lf_X8_put _) bk_X8_put (Nat.le_of_ble_eq_true rfl) hv (fun hF => (zml_cons (zcs hF ⟨Nat.le_refl _, Nat.le_refl _⟩ rfl (tw4 (i := 34) rfl) k_X8_in ⟨by decide, by decide⟩ (a_X8_in hI _)) zml_nil)) (fun hF hr hk => zrt_I hF hr hk) h3⟩
def bl_X8_wipe : ZBl := [(0, none, [(.aload_n 0, 1, 0, []), (.getfield 71, 3, 0, []), (.istore_n 1, 1, 0, []), (.aload_n 0, 1, 0, []), (.iconst 0, 1, 0, []), (.putfield 71, 3, 0, []), (.iload_n 1, 1, 0, []), (.ireturn, 1, 0, [])])]
set_option maxRecDepth 20000 in
theorem bk_X8_wipe : zdb cX8_wipe 2 bl_X8_wipe = true := by decide +kernel
noncomputable def cm_X8_wipe (ρ : Type) : List (Nat × Nat × ZCall ρ) := []
theorem lf_X8_wipe (ρ : Type) : LfM (cm_X8_wipe ρ) := lfm_of lfm_n
noncomputable def x_X8_wipe : ZJ (Int32 × Wd) := zev cF_X8 cL_X8 bl_X8_wipe (cm_X8_wipe (Int32 × Wd)) rI
noncomputable def f_X8_wipe (k0 : Nat) (w : Wd) : Option (Int32 × Wd) := x_X8_wipe 0 [] [some (zr 8 k0), none] w
noncomputable def g_X8_wipe (r : List ZV) (w : Wd) : Option (Int32 × Wd) := pR r fun tk0 k0 r => zif (Nat.beq tk0 8) (pE r (f_X8_wipe k0 w))
set_option maxRecDepth 20000 in
theorem e_X8_wipe (k0 : Nat) (w : Wd) : f_X8_wipe k0 w = (some ((w.1 8 k0 7), (wI w 8 k0 7 (Int32.ofInt 0)))) := (zev_eq (lf_X8_wipe _) _ _ _ _).trans rfl
theorem k_X8_wipe : zLkV yX8_wipe cX8_wipe 2 (some .int) 8 0 := ⟨(tw4 (i := 38) rfl), (tw4 (i := 39) rfl), (tw1 (i := 9) rfl), (tw4 (i := 40) rfl), ⟨_, _, rfl⟩, rfl, by decide, by decide, by decide +kernel⟩
set_option maxHeartbeats 4000000 in
set_option maxRecDepth 20000 in
theorem a_X8_wipe {l : Launch} {D : va_G} {ad : Nat → Nat → Nat} {cA : Nat → ClassId} (hI : zInj ad) {ρ : Type} (X : ρ) : zAns l D ad cA yX8_wipe cX8_wipe 2 (some .int) 0 0 X (fun as => ∃ i as', as = zr 8 i :: as') (cI g_X8_wipe) := by
  intro as w Kf hv h
  obtain ⟨q, h1, h2⟩ := oC_inv h
  unfold g_X8_wipe at h1
  obtain ⟨tk0, k0, r, rfl, h1_1⟩ := pR_inv h1
  obtain ⟨bk0, h1_1z⟩ := zif_inv h1_1
  cases Nat.eq_of_beq_eq_true bk0
  obtain ⟨rfl, h3⟩ := pE_inv h1_1z
  exact ⟨_, _, ⟨_, _, rfl⟩, h2, trivial, zmeth (cM := cm_X8_wipe _) (bl := bl_X8_wipe) (ret := rI) hI (by decide) fl_X8 ll_X8 (lf_X8_wipe _) bk_X8_wipe (Nat.le_of_ble_eq_true rfl) hv (fun hF => zml_nil) (fun hF hr hk => zrt_I hF hr hk) h3⟩
def bl_X8_kindOf : ZBl := [(0, none, [(.iload_n 0, 1, 0, []), (.bipush 114, 2, 0, []), (.if_icmp .ne 7, 3, 10, [])]), (6, none, [(.iconst 0, 1, 0, []), (.goto 35, 3, 42, [])]), (10, none, [(.iload_n 0, 1, 0, []), (.bipush 119, 2, 0, []), (.if_icmp .ne 7, 3, 20, [])]), (16, none, [(.iconst 1, 1, 0, []), (.goto 25, 3, 42, [])]), (20, none, [(.iload_n 0, 1, 0, []), (.bipush 108, 2, 0, []), (.if_icmp .ne 7, 3, 30, [])]), (26, none, [(.iconst 2, 1, 0, []), (.goto 15, 3, 42, [])]), (30, none, [(.iload_n 0, 1, 0, []), (.bipush 117, 2, 0, []), (.if_icmp .ne 7, 3, 40, [])]), (36, none, [(.iconst 3, 1, 0, []), (.goto 5, 3, 42, [])]), (40, none, [(.bipush (-6), 2, 0, [])]), (42, none, [(.ireturn, 1, 0, [])])]
set_option maxRecDepth 20000 in
theorem bk_X8_kindOf : zdb cX8_kindOf 1 bl_X8_kindOf = true := by decide +kernel
noncomputable def cm_X8_kindOf (ρ : Type) : List (Nat × Nat × ZCall ρ) := []
theorem lf_X8_kindOf (ρ : Type) : LfM (cm_X8_kindOf ρ) := lfm_of lfm_n
noncomputable def x_X8_kindOf : ZJ (Int32 × Wd) := zev cF_X8 cL_X8 bl_X8_kindOf (cm_X8_kindOf (Int32 × Wd)) rI
noncomputable def f_X8_kindOf (x0 : Int32) (w : Wd) : Option (Int32 × Wd) := x_X8_kindOf 0 [] [some (zi x0)] w
noncomputable def g_X8_kindOf (r : List ZV) (w : Wd) : Option (Int32 × Wd) := pI r fun x0 r => pE r (f_X8_kindOf x0 w)
set_option maxRecDepth 20000 in
theorem e_X8_kindOf (x0 : Int32) (w : Wd) : f_X8_kindOf x0 w = (if x0 = (Int32.ofInt 114) then (some ((Int32.ofInt 0), w)) else (if x0 = (Int32.ofInt 119) then (some ((Int32.ofInt 1), w)) else (if x0 = (Int32.ofInt 108) then (some ((Int32.ofInt 2), w)) else (if x0 = (Int32.ofInt 117) then (some ((Int32.ofInt 3), w)) else (some ((Int32.ofInt (-6)), w)))))) := (zev_eq (lf_X8_kindOf _) _ _ _ _).trans rfl
theorem k_X8_kindOf : zLkS yX8_kindOf cX8_kindOf 1 (some .int) 1 := ⟨(tw4 (i := 50) rfl), (tw1 (i := 9) rfl), (tw4 (i := 51) rfl), by decide, by decide, by decide +kernel⟩
set_option maxHeartbeats 4000000 in
set_option maxRecDepth 20000 in
theorem a_X8_kindOf {l : Launch} {D : va_G} {ad : Nat → Nat → Nat} {cA : Nat → ClassId} (hI : zInj ad) {ρ : Type} (X : ρ) : zAns l D ad cA yX8_kindOf cX8_kindOf 1 (some .int) 0 0 X (fun _ => True) (cI g_X8_kindOf) := by
  intro as w Kf hv h
  obtain ⟨q, h1, h2⟩ := oC_inv h
  unfold g_X8_kindOf at h1
  obtain ⟨x0, r, rfl, h1_1⟩ := pI_inv h1
  obtain ⟨rfl, h3⟩ := pE_inv h1_1
  exact ⟨_, _, trivial, h2, trivial, zmeth (cM := cm_X8_kindOf _) (bl := bl_X8_kindOf) (ret := rI) hI (by decide) fl_X8 ll_X8 (lf_X8_kindOf _) bk_X8_kindOf (Nat.le_of_ble_eq_true rfl) hv (fun hF => zml_nil) (fun hF hr hk => zrt_I hF hr hk) h3⟩
def bl_X8_faultOf : ZBl := [(0, none, [(.iconst 0, 1, 0, []), (.istore_n 2, 1, 0, [])]), (2, some [true, true, true, false, false], [(.iload_n 2, 1, 0, []), (.aload_n 0, 1, 0, []), (.getfield 71, 3, 0, []), (.if_icmp .ge 88, 3, 95, [])]), (10, none, [(.iload_n 1, 1, 0, []), (.ifCond .ne 13, 3, 24, [])]), (14, none, [(.iload_n 2, 1, 0, []), (.iconst 2, 1, 0, []), (.irem, 1, 0, []), (.ifCond .ne 7, 3, 24, [])]), (20, none, [(.iconst 1, 1, 0, []), (.goto 4, 3, 25, [])]), (24, none, [(.iconst 0, 1, 0, [])]), (25, some [true, true, true, false, false], [(.istore_n 3, 1, 0, []), (.iload_n 3, 1, 0, []), (.ifCond .eq 25, 3, 52, [])]), (30, none, [(.aload_n 0, 1, 0, []), (.getfield 22, 3, 0, []), (.iload_n 2, 1, 0, []), (.iaload, 1, 0, []), (.invokestatic 74, 3, 0, []), (.bipush (-6), 2, 0, []), (.if_icmp .eq 7, 3, 48, [])]), (44, none, [(.iconst 1, 1, 0, []), (.goto 20, 3, 65, [])]), (48, none, [(.iconst 0, 1, 0, []), (.goto 16, 3, 65, [])]), (52, none, [(.aload_n 0, 1, 0, []), (.getfield 22, 3, 0, []), (.iload_n 2, 1, 0, []), (.iaload, 1, 0, []), (.bipush 48, 2, 0, []), (.bipush 51, 2, 0, []), (.invokestatic 65, 3, 0, [])]), (65, some [true, true, true, false, false], [(.istore 4, 2, 0, []), (.iload 4, 2, 0, []), (.ifCond .eq 18, 3, 87, [])]), (72, none, [(.iload_n 2, 1, 0, []), (.iload_n 1, 1, 0, []), (.ifCond .ne 8, 3, 82, [])]), (77, none, [(.bipush 12, 2, 0, []), (.goto 5, 3, 84, [])]), (82, none, [(.bipush 24, 2, 0, [])]), (84, none, [(.if_icmp .ne 5, 3, 89, [])]), (87, none, [(.iload_n 2, 1, 0, []), (.ireturn, 1, 0, [])]), (89, none, [(.iinc 2 1, 3, 0, []), (.goto (-90), 3, 2, [])]), (95, none, [(.iload_n 1, 1, 0, []), (.ifCond .ne 20, 3, 116, [])]), (99, none, [(.aload_n 0, 1, 0, []), (.getfield 71, 3, 0, []), (.iconst 2, 1, 0, []), (.irem, 1, 0, []), (.iconst 1, 1, 0, []), (.if_icmp .ne 10, 3, 116, [])]), (109, none, [(.aload_n 0, 1, 0, []), (.getfield 71, 3, 0, []), (.goto 5, 3, 118, [])]), (116, none, [(.bipush (-6), 2, 0, [])]), (118, none, [(.ireturn, 1, 0, [])])]
set_option maxRecDepth 20000 in
theorem bk_X8_faultOf : zdb cX8_faultOf 5 bl_X8_faultOf = true := by decide +kernel
noncomputable def cm_X8_faultOf (ρ : Type) : List (Nat × Nat × ZCall ρ) := [(149, 1, cI g_X8_kindOf), (131, 3, cI g_X8_in)]
theorem lf_X8_faultOf (ρ : Type) : LfM (cm_X8_faultOf ρ) := lfm_of (lfm_cons (lfc_I g_X8_kindOf) (lfm_cons (lfc_I g_X8_in) lfm_n))
noncomputable def x_X8_faultOf : ZJ (Int32 × Wd) := zev cF_X8 cL_X8 bl_X8_faultOf (cm_X8_faultOf (Int32 × Wd)) rI
noncomputable def f_X8_faultOf (k0 : Nat) (x1 : Int32) (w : Wd) : Option (Int32 × Wd) := x_X8_faultOf 0 [] [some (zr 8 k0), some (zi x1), none, none, none] w
noncomputable def g_X8_faultOf (r : List ZV) (w : Wd) : Option (Int32 × Wd) := pR r fun tk0 k0 r => zif (Nat.beq tk0 8) (pI r fun x1 r => pE r (f_X8_faultOf k0 x1 w))
set_option maxRecDepth 20000 in
theorem e_X8_faultOf (k0 : Nat) (x1 : Int32) (w : Wd) : f_X8_faultOf k0 x1 w = (x_X8_faultOf 2 [] [some (zr 8 k0), some (zi x1), some (zi (Int32.ofInt 0)), none, none] w) := (zev_eq (lf_X8_faultOf _) _ _ _ _).trans rfl
set_option maxRecDepth 20000 in
theorem e_X8_faultOf_2 (k0 : Nat) (x1 : Int32) (x2 : Int32) (w : Wd) : x_X8_faultOf 2 [] [some (zr 8 k0), some (zi x1), some (zi x2), none, none] w = (if (w.1 8 k0 7) ≤ x2 then (if x1 = 0 then (if (Int32.ofInt 2) = 0 then none else (if ((w.1 8 k0 7) - (w.1 8 k0 7) / (Int32.ofInt 2) * (Int32.ofInt 2)) = (Int32.ofInt 1) then (some ((w.1 8 k0 7), w)) else (some ((Int32.ofInt (-6)), w)))) else (some ((Int32.ofInt (-6)), w))) else (if x1 = 0 then (if (Int32.ofInt 2) = 0 then none else (if (x2 - x2 / (Int32.ofInt 2) * (Int32.ofInt 2)) = 0 then (x_X8_faultOf 25 [zi (Int32.ofInt 1)] [some (zr 8 k0), some (zi x1), some (zi x2), none, none] w) else (x_X8_faultOf 25 [zi (Int32.ofInt 0)] [some (zr 8 k0), some (zi x1), some (zi x2), none, none] w))) else (x_X8_faultOf 25 [zi (Int32.ofInt 0)] [some (zr 8 k0), some (zi x1), some (zi x2), none, none] w))) := (zev_eq (lf_X8_faultOf _) _ _ _ _).trans rfl
set_option maxRecDepth 20000 in
theorem e_X8_faultOf_25 (s0 : Int32) (k0 : Nat) (x1 : Int32) (x2 : Int32) (w : Wd) : x_X8_faultOf 25 [zi s0] [some (zr 8 k0), some (zi x1), some (zi x2), none, none] w = (if s0 = 0 then (chk x2 40 (oC (f_X8_in (w.1 31 0 x2.toNatClampNeg) (Int32.ofInt 48) (Int32.ofInt 51) w) fun q1 => (x_X8_faultOf 65 [zi q1.1] [some (zr 8 k0), some (zi x1), some (zi x2), none, none] q1.2))) else (chk x2 40 (oC (f_X8_kindOf (w.1 31 0 x2.toNatClampNeg) w) fun q2 => (if q2.1 = (Int32.ofInt (-6)) then (x_X8_faultOf 65 [zi (Int32.ofInt 0)] [some (zr 8 k0), some (zi x1), some (zi x2), none, none] q2.2) else (x_X8_faultOf 65 [zi (Int32.ofInt 1)] [some (zr 8 k0), some (zi x1), some (zi x2), none, none] q2.2))))) := (zev_eq (lf_X8_faultOf _) _ _ _ _).trans rfl
set_option maxRecDepth 20000 in
theorem e_X8_faultOf_65 (s0 : Int32) (k0 : Nat) (x1 : Int32) (x2 : Int32) (w : Wd) : x_X8_faultOf 65 [zi s0] [some (zr 8 k0), some (zi x1), some (zi x2), none, none] w = (if s0 = 0 then (some (x2, w)) else (if x1 = 0 then (if x2 = (Int32.ofInt 12) then (some (x2, w)) else (x_X8_faultOf 2 [] [some (zr 8 k0), some (zi x1), some (zi (x2 + (Int32.ofInt 1))), none, none] w)) else (if x2 = (Int32.ofInt 24) then (some (x2, w)) else (x_X8_faultOf 2 [] [some (zr 8 k0), some (zi x1), some (zi (x2 + (Int32.ofInt 1))), none, none] w)))) := (zev_eq (lf_X8_faultOf _) _ _ _ _).trans rfl
theorem k_X8_faultOf : zLkV yX8_faultOf cX8_faultOf 5 (some .int) 8 1 := ⟨(tw4 (i := 47) rfl), (twp (n := 22) (List.mem_append_right _ (List.mem_append_left _ (List.mem_of_getElem? (i := 5) rfl)))), (tw1 (i := 9) rfl), (tw4 (i := 48) rfl), ⟨_, _, rfl⟩, rfl, by decide, by decide, by decide +kernel⟩
set_option maxHeartbeats 4000000 in
set_option maxRecDepth 20000 in
theorem a_X8_faultOf {l : Launch} {D : va_G} {ad : Nat → Nat → Nat} {cA : Nat → ClassId} (hI : zInj ad) {ρ : Type} (X : ρ) : zAns l D ad cA yX8_faultOf cX8_faultOf 5 (some .int) 1 22 X (fun as => ∃ i as', as = zr 8 i :: as') (cI g_X8_faultOf) := by
  intro as w Kf hv h
  obtain ⟨q, h1, h2⟩ := oC_inv h
  unfold g_X8_faultOf at h1
  obtain ⟨tk0, k0, r, rfl, h1_1⟩ := pR_inv h1
  obtain ⟨bk0, h1_1z⟩ := zif_inv h1_1
  cases Nat.eq_of_beq_eq_true bk0
  obtain ⟨x1, r, rfl, h1_2⟩ := pI_inv h1_1z
  obtain ⟨rfl, h3⟩ := pE_inv h1_2
  exact ⟨_, _, ⟨_, _, rfl⟩, h2, trivial, zmeth (cM := cm_X8_faultOf _) (bl := bl_X8_faultOf) (ret := rI) hI (by decide) fl_X8 ll_X8 (lf_X8_faultOf _) bk_X8_faultOf (Nat.le_of_ble_eq_true rfl) hv (fun hF => (zml_cons (zcs hF ⟨Nat.le_refl _, Nat.le_refl _⟩ rfl (tw4 (i := 49) rfl) k_X8_kindOf ⟨by decide, by decide⟩ (a_X8_kindOf hI _)) (zml_cons (zcs hF ⟨Nat.le_refl _, Nat.le_refl _⟩ rfl (tw4 (i := 34) rfl) k_X8_in ⟨by decide, by decide⟩ (a_X8_in hI _)) zml_nil))) (fun hF hr hk => zrt_I hF hr hk) h3⟩
