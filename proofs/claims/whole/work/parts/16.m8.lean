def bl_X8_fault : ZBl := [(0, none, [(.iload_n 1, 1, 0, []), (.iconst 0, 1, 0, []), (.iconst 1, 1, 0, []), (.invokestatic 65, 3, 0, []), (.ifCond .eq 11, 3, 17, [])]), (9, none, [(.aload_n 0, 1, 0, []), (.iload_n 1, 1, 0, []), (.invokevirtual 78, 3, 0, []), (.goto 5, 3, 19, [])]), (17, none, [(.bipush (-2), 2, 0, [])]), (19, none, [(.ireturn, 1, 0, [])])]
set_option maxRecDepth 20000 in
theorem bk_X8_fault : zdb cX8_fault 2 bl_X8_fault = true := by decide +kernel
noncomputable def cm_X8_fault (ρ : Type) : List (Nat × Nat × ZCall ρ) := [(131, 3, cI g_X8_in), (156, 2, cI g_X8_faultOf)]
theorem lf_X8_fault (ρ : Type) : LfM (cm_X8_fault ρ) := lfm_of (lfm_cons (lfc_I g_X8_in) (lfm_cons (lfc_I g_X8_faultOf) lfm_n))
noncomputable def x_X8_fault : ZJ (Int32 × Wd) := zev cF_X8 cL_X8 bl_X8_fault (cm_X8_fault (Int32 × Wd)) rI
noncomputable def f_X8_fault (k0 : Nat) (x1 : Int32) (w : Wd) : Option (Int32 × Wd) := x_X8_fault 0 [] [some (zr 8 k0), some (zi x1)] w
noncomputable def g_X8_fault (r : List ZV) (w : Wd) : Option (Int32 × Wd) := pR r fun tk0 k0 r => zif (Nat.beq tk0 8) (pI r fun x1 r => pE r (f_X8_fault k0 x1 w))
set_option maxRecDepth 20000 in
theorem e_X8_fault (k0 : Nat) (x1 : Int32) (w : Wd) : f_X8_fault k0 x1 w = (oC (f_X8_in x1 (Int32.ofInt 0) (Int32.ofInt 1) w) fun q1 => (if q1.1 = 0 then (some ((Int32.ofInt (-2)), q1.2)) else (oC (f_X8_faultOf k0 x1 q1.2) fun q2 => (some (q2.1, q2.2))))) := (zev_eq (lf_X8_fault _) _ _ _ _).trans rfl
theorem k_X8_fault : zLkV yX8_fault cX8_fault 2 (some .int) 8 1 := ⟨(tw4 (i := 42) rfl), (tw4 (i := 43) rfl), (tw1 (i := 9) rfl), (tw4 (i := 44) rfl), ⟨_, _, rfl⟩, rfl, by decide, by decide, by decide +kernel⟩
set_option maxHeartbeats 4000000 in
set_option maxRecDepth 20000 in
theorem a_X8_fault {l : Launch} {D : va_G} {ad : Nat → Nat → Nat} {cA : Nat → ClassId} (hI : zInj ad) {ρ : Type} (X : ρ) : zAns l D ad cA yX8_fault cX8_fault 2 (some .int) 2 46 X (fun as => ∃ i as', as = zr 8 i :: as') (cI g_X8_fault) := by
  intro as w Kf hv h
  obtain ⟨q, h1, h2⟩ := oC_inv h
  unfold g_X8_fault at h1
  obtain ⟨tk0, k0, r, rfl, h1_1⟩ := pR_inv h1
  obtain ⟨bk0, h1_1z⟩ := zif_inv h1_1
  cases Nat.eq_of_beq_eq_true bk0
  obtain ⟨x1, r, rfl, h1_2⟩ := pI_inv h1_1z
  obtain ⟨rfl, h3⟩ := pE_inv h1_2
  exact ⟨_, _, ⟨_, _, rfl⟩, h2, trivial, zmeth (cM := cm_X8_fault _) (bl := bl_X8_fault) (ret := rI) hI (by decide) fl_X8 ll_X8 (lf_X8_fault _) bk_X8_fault (Nat.le_of_ble_eq_true rfl) hv (fun hF => (zml_cons (zcs hF ⟨Nat.le_refl _, Nat.le_refl _⟩ rfl (tw4 (i := 34) rfl) k_X8_in ⟨by decide, by decide⟩ (a_X8_in hI _)) (zml_cons (zcv hF ⟨Nat.le_refl _, Nat.le_refl _⟩ rfl (tw4 (i := 45) rfl) k_X8_faultOf ⟨by decide, by decide⟩ (a_X8_faultOf hI _)) zml_nil))) (fun hF hr hk => zrt_I hF hr hk) h3⟩
def bl_X8_isWell : ZBl := [(0, none, [(.iconst 0, 1, 0, []), (.istore_n 2, 1, 0, []), (.iconst 0, 1, 0, []), (.istore_n 3, 1, 0, [])]), (4, some [true, true, true, true, false, false], [(.iload_n 3, 1, 0, []), (.aload_n 0, 1, 0, []), (.getfield 7, 3, 0, []), (.iload_n 1, 1, 0, []), (.iaload, 1, 0, []), (.if_icmp .ge 74, 3, 85, [])]), (14, none, [(.iconst 1, 1, 0, []), (.aload_n 0, 1, 0, []), (.iload_n 1, 1, 0, []), (.iload_n 3, 1, 0, []), (.invokevirtual 81, 3, 0, []), (.iconst 4, 1, 0, []), (.irem, 1, 0, []), (.ishl, 1, 0, []), (.istore 4, 2, 0, []), (.aload_n 0, 1, 0, []), (.iload_n 1, 1, 0, []), (.iload_n 3, 1, 0, []), (.invokevirtual 81, 3, 0, []), (.iconst 4, 1, 0, []), (.idiv, 1, 0, []), (.istore 5, 2, 0, []), (.iload 5, 2, 0, []), (.iconst 2, 1, 0, []), (.if_icmp .ne 10, 3, 49, [])]), (42, none, [(.iload_n 2, 1, 0, []), (.iload 4, 2, 0, []), (.iand, 1, 0, []), (.ifCond .ne 16, 3, 62, [])]), (49, none, [(.iload 5, 2, 0, []), (.iconst 3, 1, 0, []), (.if_icmp .ne 12, 3, 64, [])]), (55, none, [(.iload_n 2, 1, 0, []), (.iload 4, 2, 0, []), (.iand, 1, 0, []), (.ifCond .ne 5, 3, 64, [])]), (62, none, [(.iconst 0, 1, 0, []), (.ireturn, 1, 0, [])]), (64, some [true, true, true, true, true, true], [(.iload 5, 2, 0, []), (.iconst 2, 1, 0, []), (.if_icmp .ge 7, 3, 74, [])]), (70, none, [(.iload_n 2, 1, 0, []), (.goto 7, 3, 78, [])]), (74, none, [(.iload_n 2, 1, 0, []), (.iload 4, 2, 0, []), (.ixor, 1, 0, [])]), (78, none, [(.istore_n 2, 1, 0, []), (.iinc 3 1, 3, 0, []), (.goto (-78), 3, 4, [])]), (85, none, [(.iconst 1, 1, 0, []), (.ireturn, 1, 0, [])])]
set_option maxRecDepth 20000 in
theorem bk_X8_isWell : zdb cX8_isWell 6 bl_X8_isWell = true := by decide +kernel
noncomputable def cm_X8_isWell (ρ : Type) : List (Nat × Nat × ZCall ρ) := [(162, 3, cI g_X8_step)]
theorem lf_X8_isWell (ρ : Type) : LfM (cm_X8_isWell ρ) := lfm_of (lfm_cons (lfc_I g_X8_step) lfm_n)
noncomputable def x_X8_isWell : ZJ (Int32 × Wd) := zev cF_X8 cL_X8 bl_X8_isWell (cm_X8_isWell (Int32 × Wd)) rZ
noncomputable def f_X8_isWell (k0 : Nat) (x1 : Int32) (w : Wd) : Option (Int32 × Wd) := x_X8_isWell 0 [] [some (zr 8 k0), some (zi x1), none, none, none, none] w
noncomputable def g_X8_isWell (r : List ZV) (w : Wd) : Option (Int32 × Wd) := pR r fun tk0 k0 r => zif (Nat.beq tk0 8) (pI r fun x1 r => pE r (f_X8_isWell k0 x1 w))
set_option maxRecDepth 20000 in
theorem e_X8_isWell (k0 : Nat) (x1 : Int32) (w : Wd) : f_X8_isWell k0 x1 w = (x_X8_isWell 4 [] [some (zr 8 k0), some (zi x1), some (zi (Int32.ofInt 0)), some (zi (Int32.ofInt 0)), none, none] w) := (zev_eq (lf_X8_isWell _) _ _ _ _).trans rfl
set_option maxRecDepth 20000 in
theorem e_X8_isWell_4 (k0 : Nat) (x1 : Int32) (x2 : Int32) (x3 : Int32) (w : Wd) : x_X8_isWell 4 [] [some (zr 8 k0), some (zi x1), some (zi x2), some (zi x3), none, none] w = (chk x1 53 (if (w.1 30 0 x1.toNatClampNeg) ≤ x3 then (zb (Int32.ofInt 1) (some ((Int32.ofInt 1), w))) else (oC (f_X8_step k0 x1 x3 w) fun q1 => (if (Int32.ofInt 4) = 0 then none else (oC (f_X8_step k0 x1 x3 q1.2) fun q2 => (if (Int32.ofInt 4) = 0 then none else (if (q2.1 / (Int32.ofInt 4)) = (Int32.ofInt 2) then (if (x2 &&& ((Int32.ofInt 1) <<< ((q1.1 - q1.1 / (Int32.ofInt 4) * (Int32.ofInt 4)) &&& 31))) = 0 then (if (q2.1 / (Int32.ofInt 4)) = (Int32.ofInt 3) then (if (x2 &&& ((Int32.ofInt 1) <<< ((q1.1 - q1.1 / (Int32.ofInt 4) * (Int32.ofInt 4)) &&& 31))) = 0 then (zb (Int32.ofInt 0) (some ((Int32.ofInt 0), q2.2))) else (x_X8_isWell 64 [] [some (zr 8 k0), some (zi x1), some (zi x2), some (zi x3), some (zi ((Int32.ofInt 1) <<< ((q1.1 - q1.1 / (Int32.ofInt 4) * (Int32.ofInt 4)) &&& 31))), some (zi (q2.1 / (Int32.ofInt 4)))] q2.2)) else (x_X8_isWell 64 [] [some (zr 8 k0), some (zi x1), some (zi x2), some (zi x3), some (zi ((Int32.ofInt 1) <<< ((q1.1 - q1.1 / (Int32.ofInt 4) * (Int32.ofInt 4)) &&& 31))), some (zi (q2.1 / (Int32.ofInt 4)))] q2.2)) else (zb (Int32.ofInt 0) (some ((Int32.ofInt 0), q2.2)))) else (if (q2.1 / (Int32.ofInt 4)) = (Int32.ofInt 3) then (if (x2 &&& ((Int32.ofInt 1) <<< ((q1.1 - q1.1 / (Int32.ofInt 4) * (Int32.ofInt 4)) &&& 31))) = 0 then (zb (Int32.ofInt 0) (some ((Int32.ofInt 0), q2.2))) else (x_X8_isWell 64 [] [some (zr 8 k0), some (zi x1), some (zi x2), some (zi x3), some (zi ((Int32.ofInt 1) <<< ((q1.1 - q1.1 / (Int32.ofInt 4) * (Int32.ofInt 4)) &&& 31))), some (zi (q2.1 / (Int32.ofInt 4)))] q2.2)) else (x_X8_isWell 64 [] [some (zr 8 k0), some (zi x1), some (zi x2), some (zi x3), some (zi ((Int32.ofInt 1) <<< ((q1.1 - q1.1 / (Int32.ofInt 4) * (Int32.ofInt 4)) &&& 31))), some (zi (q2.1 / (Int32.ofInt 4)))] q2.2))))))))) := (zev_eq (lf_X8_isWell _) _ _ _ _).trans rfl
set_option maxRecDepth 20000 in
theorem e_X8_isWell_64 (k0 : Nat) (x1 : Int32) (x2 : Int32) (x3 : Int32) (x4 : Int32) (x5 : Int32) (w : Wd) : x_X8_isWell 64 [] [some (zr 8 k0), some (zi x1), some (zi x2), some (zi x3), some (zi x4), some (zi x5)] w = (if (Int32.ofInt 2) ≤ x5 then (x_X8_isWell 4 [] [some (zr 8 k0), some (zi x1), some (zi (x2 ^^^ x4)), some (zi (x3 + (Int32.ofInt 1))), none, none] w) else (x_X8_isWell 4 [] [some (zr 8 k0), some (zi x1), some (zi x2), some (zi (x3 + (Int32.ofInt 1))), none, none] w)) := (zev_eq (lf_X8_isWell _) _ _ _ _).trans rfl
theorem k_X8_isWell : zLkV yX8_isWell cX8_isWell 6 (some .boolean) 8 1 := ⟨(tw4 (i := 64) rfl), (twp (n := 22) (List.mem_append_right _ (List.mem_append_left _ (List.mem_of_getElem? (i := 6) rfl)))), (tw1 (i := 9) rfl), (tw4 (i := 65) rfl), ⟨_, _, rfl⟩, rfl, by decide, by decide, by decide +kernel⟩
set_option maxHeartbeats 4000000 in
set_option maxRecDepth 20000 in
theorem a_X8_isWell {l : Launch} {D : va_G} {ad : Nat → Nat → Nat} {cA : Nat → ClassId} (hI : zInj ad) {ρ : Type} (X : ρ) : zAns l D ad cA yX8_isWell cX8_isWell 6 (some .boolean) 1 22 X (fun as => ∃ i as', as = zr 8 i :: as') (cI g_X8_isWell) := by
  intro as w Kf hv h
  obtain ⟨q, h1, h2⟩ := oC_inv h
  unfold g_X8_isWell at h1
  obtain ⟨tk0, k0, r, rfl, h1_1⟩ := pR_inv h1
  obtain ⟨bk0, h1_1z⟩ := zif_inv h1_1
  cases Nat.eq_of_beq_eq_true bk0
  obtain ⟨x1, r, rfl, h1_2⟩ := pI_inv h1_1z
  obtain ⟨rfl, h3⟩ := pE_inv h1_2
  exact ⟨_, _, ⟨_, _, rfl⟩, h2, trivial, zmeth (cM := cm_X8_isWell _) (bl := bl_X8_isWell) (ret := rZ) hI (by decide) fl_X8 ll_X8 (lf_X8_isWell _) bk_X8_isWell (Nat.le_of_ble_eq_true rfl) hv (fun hF => (zml_cons (zcv hF ⟨Nat.le_refl _, Nat.le_refl _⟩ rfl (tw4 (i := 66) rfl) k_X8_step ⟨by decide, by decide⟩ (a_X8_step hI _)) zml_nil)) (fun hF hr hk => zrt_Z hF hr hk) h3⟩
def bl_X8_program : ZBl := [(0, none, [(.iload_n 1, 1, 0, []), (.invokestatic 85, 3, 0, []), (.ifCond .ne 5, 3, 9, [])]), (7, none, [(.iconst (-1), 1, 0, []), (.ireturn, 1, 0, [])]), (9, none, [(.aload_n 0, 1, 0, []), (.iconst 0, 1, 0, []), (.invokevirtual 78, 3, 0, []), (.bipush (-6), 2, 0, []), (.if_icmp .eq 6, 3, 22, [])]), (19, none, [(.bipush (-3), 2, 0, []), (.ireturn, 1, 0, [])]), (22, none, [(.aload_n 0, 1, 0, []), (.getfield 7, 3, 0, []), (.iconst 0, 1, 0, []), (.aload_n 0, 1, 0, []), (.getfield 19, 3, 0, []), (.iconst 0, 1, 0, []), (.invokestatic 61, 3, 0, []), (.aload_n 0, 1, 0, []), (.getfield 7, 3, 0, []), (.iload_n 1, 1, 0, []), (.aload_n 0, 1, 0, []), (.getfield 71, 3, 0, []), (.iconst 2, 1, 0, []), (.idiv, 1, 0, []), (.iastore, 1, 0, []), (.iconst 0, 1, 0, []), (.istore_n 2, 1, 0, [])]), (49, some [true, true, true], [(.iload_n 2, 1, 0, []), (.aload_n 0, 1, 0, []), (.getfield 7, 3, 0, []), (.iload_n 1, 1, 0, []), (.iaload, 1, 0, []), (.if_icmp .ge 49, 3, 105, [])]), (59, none, [(.aload_n 0, 1, 0, []), (.getfield 7, 3, 0, []), (.iconst 4, 1, 0, []), (.bipush 6, 2, 0, []), (.iload_n 1, 1, 0, []), (.imul, 1, 0, []), (.iadd, 1, 0, []), (.iload_n 2, 1, 0, []), (.iadd, 1, 0, []), (.iconst 4, 1, 0, []), (.aload_n 0, 1, 0, []), (.getfield 22, 3, 0, []), (.iconst 2, 1, 0, []), (.iload_n 2, 1, 0, []), (.imul, 1, 0, []), (.iaload, 1, 0, []), (.invokestatic 74, 3, 0, []), (.imul, 1, 0, []), (.aload_n 0, 1, 0, []), (.getfield 22, 3, 0, []), (.iconst 2, 1, 0, []), (.iload_n 2, 1, 0, []), (.imul, 1, 0, []), (.iconst 1, 1, 0, []), (.iadd, 1, 0, []), (.iaload, 1, 0, []), (.iadd, 1, 0, []), (.bipush 48, 2, 0, []), (.isub, 1, 0, []), (.iastore, 1, 0, []), (.iinc 2 1, 3, 0, []), (.goto (-53), 3, 49, [])]), (105, none, [(.aload_n 0, 1, 0, []), (.iload_n 1, 1, 0, []), (.invokevirtual 89, 3, 0, []), (.ifCond .ne 19, 3, 129, [])]), (113, none, [(.aload_n 0, 1, 0, []), (.getfield 19, 3, 0, []), (.iconst 0, 1, 0, []), (.aload_n 0, 1, 0, []), (.getfield 7, 3, 0, []), (.iconst 0, 1, 0, []), (.invokestatic 61, 3, 0, []), (.bipush (-5), 2, 0, []), (.ireturn, 1, 0, [])]), (129, none, [(.aload_n 0, 1, 0, []), (.aload_n 0, 1, 0, []), (.getfield 19, 3, 0, []), (.invokevirtual 92, 3, 0, []), (.aload_n 0, 1, 0, []), (.getfield 7, 3, 0, []), (.bipush 28, 2, 0, []), (.iconst 0, 1, 0, []), (.iastore, 1, 0, []), (.aload_n 0, 1, 0, []), (.iconst 0, 1, 0, []), (.putfield 71, 3, 0, []), (.aload_n 0, 1, 0, []), (.getfield 7, 3, 0, []), (.iload_n 1, 1, 0, []), (.iaload, 1, 0, []), (.ireturn, 1, 0, [])])]
set_option maxRecDepth 20000 in
theorem bk_X8_program : zdb cX8_program 3 bl_X8_program = true := by decide +kernel
noncomputable def cm_X8_program (ρ : Type) : List (Nat × Nat × ZCall ρ) := [(171, 1, cI g_X8_isThread), (156, 2, cI g_X8_faultOf), (123, 4, cV g_X8_copies), (149, 1, cI g_X8_kindOf), (178, 2, cI g_X8_isWell), (184, 2, cV g_X8_records)]
theorem lf_X8_program (ρ : Type) : LfM (cm_X8_program ρ) := lfm_of (lfm_cons (lfc_I g_X8_isThread) (lfm_cons (lfc_I g_X8_faultOf) (lfm_cons (lfc_V g_X8_copies) (lfm_cons (lfc_I g_X8_kindOf) (lfm_cons (lfc_I g_X8_isWell) (lfm_cons (lfc_V g_X8_records) lfm_n))))))
noncomputable def x_X8_program : ZJ (Int32 × Wd) := zev cF_X8 cL_X8 bl_X8_program (cm_X8_program (Int32 × Wd)) rI
noncomputable def f_X8_program (k0 : Nat) (x1 : Int32) (w : Wd) : Option (Int32 × Wd) := x_X8_program 0 [] [some (zr 8 k0), some (zi x1), none] w
noncomputable def g_X8_program (r : List ZV) (w : Wd) : Option (Int32 × Wd) := pR r fun tk0 k0 r => zif (Nat.beq tk0 8) (pI r fun x1 r => pE r (f_X8_program k0 x1 w))
set_option maxRecDepth 20000 in
theorem e_X8_program (k0 : Nat) (x1 : Int32) (w : Wd) : f_X8_program k0 x1 w = (oC (f_X8_isThread x1 w) fun q1 => (if q1.1 = 0 then (some ((Int32.ofInt (-1)), q1.2)) else (oC (f_X8_faultOf k0 (Int32.ofInt 0) q1.2) fun q2 => (if q2.1 = (Int32.ofInt (-6)) then (oC (f_X8_copies 0 (Int32.ofInt 0) 3 (Int32.ofInt 0) q2.2) fun q3 => (if (Int32.ofInt 2) = 0 then none else (chk x1 53 (x_X8_program 49 [] [some (zr 8 k0), some (zi x1), some (zi (Int32.ofInt 0))] (wI q3 30 0 x1.toNatClampNeg ((q3.1 8 k0 7) / (Int32.ofInt 2))))))) else (some ((Int32.ofInt (-3)), q2.2)))))) := (zev_eq (lf_X8_program _) _ _ _ _).trans rfl
set_option maxRecDepth 20000 in
theorem e_X8_program_49 (k0 : Nat) (x1 : Int32) (x2 : Int32) (w : Wd) : x_X8_program 49 [] [some (zr 8 k0), some (zi x1), some (zi x2)] w = (chk x1 53 (if (w.1 30 0 x1.toNatClampNeg) ≤ x2 then (oC (f_X8_isWell k0 x1 w) fun q1 => (if q1.1 = 0 then (oC (f_X8_copies 3 (Int32.ofInt 0) 0 (Int32.ofInt 0) q1.2) fun q3 => (some ((Int32.ofInt (-5)), q3))) else (oC (f_X8_records k0 3 q1.2) fun q2 => (chk (Int32.ofInt 28) 53 (chk x1 53 (some (((wI (wI q2 30 0 (Int32.ofInt 28).toNatClampNeg (Int32.ofInt 0)) 8 k0 7 (Int32.ofInt 0)).1 30 0 x1.toNatClampNeg), (wI (wI q2 30 0 (Int32.ofInt 28).toNatClampNeg (Int32.ofInt 0)) 8 k0 7 (Int32.ofInt 0))))))))) else (chk ((Int32.ofInt 2) * x2) 40 (oC (f_X8_kindOf (w.1 31 0 ((Int32.ofInt 2) * x2).toNatClampNeg) w) fun q4 => (chk (((Int32.ofInt 2) * x2) + (Int32.ofInt 1)) 40 (chk (((Int32.ofInt 4) + ((Int32.ofInt 6) * x1)) + x2) 53 (x_X8_program 49 [] [some (zr 8 k0), some (zi x1), some (zi (x2 + (Int32.ofInt 1)))] (wI q4.2 30 0 (((Int32.ofInt 4) + ((Int32.ofInt 6) * x1)) + x2).toNatClampNeg ((((Int32.ofInt 4) * q4.1) + (q4.2.1 31 0 (((Int32.ofInt 2) * x2) + (Int32.ofInt 1)).toNatClampNeg)) - (Int32.ofInt 48)))))))))) := (zev_eq (lf_X8_program _) _ _ _ _).trans rfl
theorem k_X8_program : zLkV yX8_program cX8_program 3 (some .int) 8 1 := ⟨(tw4 (i := 53) rfl), (tw4 (i := 54) rfl), (tw1 (i := 9) rfl), (tw4 (i := 55) rfl), ⟨_, _, rfl⟩, rfl, by decide, by decide, by decide +kernel⟩
set_option maxHeartbeats 4000000 in
set_option maxRecDepth 20000 in
theorem a_X8_program {l : Launch} {D : va_G} {ad : Nat → Nat → Nat} {cA : Nat → ClassId} (hI : zInj ad) {ρ : Type} (X : ρ) : zAns l D ad cA yX8_program cX8_program 3 (some .int) 2 47 X (fun as => ∃ i as', as = zr 8 i :: as') (cI g_X8_program) := by
  intro as w Kf hv h
  obtain ⟨q, h1, h2⟩ := oC_inv h
  unfold g_X8_program at h1
  obtain ⟨tk0, k0, r, rfl, h1_1⟩ := pR_inv h1
  obtain ⟨bk0, h1_1z⟩ := zif_inv h1_1
  cases Nat.eq_of_beq_eq_true bk0
  obtain ⟨x1, r, rfl, h1_2⟩ := pI_inv h1_1z
  obtain ⟨rfl, h3⟩ := pE_inv h1_2
  exact ⟨_, _, ⟨_, _, rfl⟩, h2, trivial, zmeth (cM := cm_X8_program _) (bl := bl_X8_program) (ret := rI) hI (by decide) fl_X8 ll_X8 (lf_X8_program _) bk_X8_program (Nat.le_of_ble_eq_true rfl) hv (fun hF => (zml_cons (zcs hF ⟨Nat.le_refl _, Nat.le_refl _⟩ rfl (tw4 (i := 56) rfl) k_X8_isThread ⟨by decide, by decide⟩ (a_X8_isThread hI _)) (zml_cons (zcv hF ⟨Nat.le_refl _, Nat.le_refl _⟩ rfl (tw4 (i := 45) rfl) k_X8_faultOf ⟨by decide, by decide⟩ (a_X8_faultOf hI _)) (zml_cons (zcs hF ⟨Nat.le_refl _, Nat.le_refl _⟩ rfl (tw4 (i := 59) rfl) k_X8_copies ⟨by decide, by decide⟩ (a_X8_copies hI _)) (zml_cons (zcs hF ⟨Nat.le_refl _, Nat.le_refl _⟩ rfl (tw4 (i := 49) rfl) k_X8_kindOf ⟨by decide, by decide⟩ (a_X8_kindOf hI _)) (zml_cons (zcv hF ⟨Nat.le_refl _, Nat.le_refl _⟩ rfl (tw4 (i := 62) rfl) k_X8_isWell ⟨by decide, by decide⟩ (a_X8_isWell hI _)) (zml_cons (zcv hF ⟨Nat.le_refl _, Nat.le_refl _⟩ rfl (tw4 (i := 70) rfl) k_X8_records ⟨by decide, by decide⟩ (a_X8_records hI _)) zml_nil))))))) (fun hF hr hk => zrt_I hF hr hk) h3⟩
def bl_X8_exchange : ZBl := [(0, none, [(.iload_n 1, 1, 0, []), (.invokestatic 85, 3, 0, []), (.ifCond .eq 19, 3, 23, [])]), (7, none, [(.iload_n 2, 1, 0, []), (.iconst 0, 1, 0, []), (.aload_n 0, 1, 0, []), (.getfield 7, 3, 0, []), (.iload_n 1, 1, 0, []), (.iaload, 1, 0, []), (.iconst 2, 1, 0, []), (.isub, 1, 0, []), (.invokestatic 65, 3, 0, []), (.ifCond .ne 5, 3, 25, [])]), (23, none, [(.iconst (-1), 1, 0, []), (.ireturn, 1, 0, [])]), (25, none, [(.aload_n 0, 1, 0, []), (.getfield 7, 3, 0, []), (.iconst 0, 1, 0, []), (.aload_n 0, 1, 0, []), (.getfield 19, 3, 0, []), (.iconst 0, 1, 0, []), (.invokestatic 61, 3, 0, []), (.iconst 4, 1, 0, []), (.bipush 6, 2, 0, []), (.iload_n 1, 1, 0, []), (.imul, 1, 0, []), (.iadd, 1, 0, []), (.iload_n 2, 1, 0, []), (.iadd, 1, 0, []), (.istore_n 3, 1, 0, []), (.aload_n 0, 1, 0, []), (.getfield 7, 3, 0, []), (.iload_n 3, 1, 0, []), (.iaload, 1, 0, []), (.istore 4, 2, 0, []), (.aload_n 0, 1, 0, []), (.getfield 7, 3, 0, []), (.iload_n 3, 1, 0, []), (.iconst 1, 1, 0, []), (.iadd, 1, 0, []), (.iaload, 1, 0, []), (.istore 5, 2, 0, []), (.aload_n 0, 1, 0, []), (.getfield 7, 3, 0, []), (.iload_n 3, 1, 0, []), (.iload 5, 2, 0, []), (.iastore, 1, 0, []), (.aload_n 0, 1, 0, []), (.getfield 7, 3, 0, []), (.iload_n 3, 1, 0, []), (.iconst 1, 1, 0, []), (.iadd, 1, 0, []), (.iload 4, 2, 0, []), (.iastore, 1, 0, []), (.aload_n 0, 1, 0, []), (.iload_n 1, 1, 0, []), (.invokevirtual 89, 3, 0, []), (.ifCond .ne 19, 3, 107, [])]), (91, none, [(.aload_n 0, 1, 0, []), (.getfield 19, 3, 0, []), (.iconst 0, 1, 0, []), (.aload_n 0, 1, 0, []), (.getfield 7, 3, 0, []), (.iconst 0, 1, 0, []), (.invokestatic 61, 3, 0, []), (.bipush (-5), 2, 0, []), (.ireturn, 1, 0, [])]), (107, none, [(.aload_n 0, 1, 0, []), (.aload_n 0, 1, 0, []), (.getfield 19, 3, 0, []), (.invokevirtual 92, 3, 0, []), (.aload_n 0, 1, 0, []), (.getfield 7, 3, 0, []), (.bipush 28, 2, 0, []), (.iconst 0, 1, 0, []), (.iastore, 1, 0, []), (.iload 4, 2, 0, []), (.iload 5, 2, 0, []), (.if_icmp .eq 7, 3, 134, [])]), (130, none, [(.iconst 1, 1, 0, []), (.goto 4, 3, 135, [])]), (134, none, [(.iconst 0, 1, 0, [])]), (135, none, [(.ireturn, 1, 0, [])])]
set_option maxRecDepth 20000 in
theorem bk_X8_exchange : zdb cX8_exchange 6 bl_X8_exchange = true := by decide +kernel
noncomputable def cm_X8_exchange (ρ : Type) : List (Nat × Nat × ZCall ρ) := [(171, 1, cI g_X8_isThread), (131, 3, cI g_X8_in), (123, 4, cV g_X8_copies), (178, 2, cI g_X8_isWell), (184, 2, cV g_X8_records)]
theorem lf_X8_exchange (ρ : Type) : LfM (cm_X8_exchange ρ) := lfm_of (lfm_cons (lfc_I g_X8_isThread) (lfm_cons (lfc_I g_X8_in) (lfm_cons (lfc_V g_X8_copies) (lfm_cons (lfc_I g_X8_isWell) (lfm_cons (lfc_V g_X8_records) lfm_n)))))
noncomputable def x_X8_exchange : ZJ (Int32 × Wd) := zev cF_X8 cL_X8 bl_X8_exchange (cm_X8_exchange (Int32 × Wd)) rI
noncomputable def f_X8_exchange (k0 : Nat) (x1 : Int32) (x2 : Int32) (w : Wd) : Option (Int32 × Wd) := x_X8_exchange 0 [] [some (zr 8 k0), some (zi x1), some (zi x2), none, none, none] w
noncomputable def g_X8_exchange (r : List ZV) (w : Wd) : Option (Int32 × Wd) := pR r fun tk0 k0 r => zif (Nat.beq tk0 8) (pI r fun x1 r => pI r fun x2 r => pE r (f_X8_exchange k0 x1 x2 w))
set_option maxRecDepth 20000 in
theorem e_X8_exchange (k0 : Nat) (x1 : Int32) (x2 : Int32) (w : Wd) : f_X8_exchange k0 x1 x2 w = (oC (f_X8_isThread x1 w) fun q1 => (if q1.1 = 0 then (some ((Int32.ofInt (-1)), q1.2)) else (chk x1 53 (oC (f_X8_in x2 (Int32.ofInt 0) ((q1.2.1 30 0 x1.toNatClampNeg) - (Int32.ofInt 2)) q1.2) fun q2 => (if q2.1 = 0 then (some ((Int32.ofInt (-1)), q2.2)) else (oC (f_X8_copies 0 (Int32.ofInt 0) 3 (Int32.ofInt 0) q2.2) fun q3 => (chk (((Int32.ofInt 4) + ((Int32.ofInt 6) * x1)) + x2) 53 (chk ((((Int32.ofInt 4) + ((Int32.ofInt 6) * x1)) + x2) + (Int32.ofInt 1)) 53 (chk (((Int32.ofInt 4) + ((Int32.ofInt 6) * x1)) + x2) 53 (chk ((((Int32.ofInt 4) + ((Int32.ofInt 6) * x1)) + x2) + (Int32.ofInt 1)) 53 (oC (f_X8_isWell k0 x1 (wI (wI q3 30 0 (((Int32.ofInt 4) + ((Int32.ofInt 6) * x1)) + x2).toNatClampNeg (q3.1 30 0 ((((Int32.ofInt 4) + ((Int32.ofInt 6) * x1)) + x2) + (Int32.ofInt 1)).toNatClampNeg)) 30 0 ((((Int32.ofInt 4) + ((Int32.ofInt 6) * x1)) + x2) + (Int32.ofInt 1)).toNatClampNeg (q3.1 30 0 (((Int32.ofInt 4) + ((Int32.ofInt 6) * x1)) + x2).toNatClampNeg))) fun q4 => (if q4.1 = 0 then (oC (f_X8_copies 3 (Int32.ofInt 0) 0 (Int32.ofInt 0) q4.2) fun q6 => (some ((Int32.ofInt (-5)), q6))) else (oC (f_X8_records k0 3 q4.2) fun q5 => (chk (Int32.ofInt 28) 53 (if (q3.1 30 0 (((Int32.ofInt 4) + ((Int32.ofInt 6) * x1)) + x2).toNatClampNeg) = (q3.1 30 0 ((((Int32.ofInt 4) + ((Int32.ofInt 6) * x1)) + x2) + (Int32.ofInt 1)).toNatClampNeg) then (some ((Int32.ofInt 0), (wI q5 30 0 (Int32.ofInt 28).toNatClampNeg (Int32.ofInt 0)))) else (some ((Int32.ofInt 1), (wI q5 30 0 (Int32.ofInt 28).toNatClampNeg (Int32.ofInt 0))))))))))))))))))) := (zev_eq (lf_X8_exchange _) _ _ _ _).trans rfl
theorem k_X8_exchange : zLkV yX8_exchange cX8_exchange 6 (some .int) 8 2 := ⟨(tw4 (i := 75) rfl), (tw4 (i := 76) rfl), (tw1 (i := 9) rfl), (tw4 (i := 77) rfl), ⟨_, _, rfl⟩, rfl, by decide, by decide, by decide +kernel⟩
set_option maxHeartbeats 4000000 in
set_option maxRecDepth 20000 in
theorem a_X8_exchange {l : Launch} {D : va_G} {ad : Nat → Nat → Nat} {cA : Nat → ClassId} (hI : zInj ad) {ρ : Type} (X : ρ) : zAns l D ad cA yX8_exchange cX8_exchange 6 (some .int) 2 47 X (fun as => ∃ i as', as = zr 8 i :: as') (cI g_X8_exchange) := by
  intro as w Kf hv h
  obtain ⟨q, h1, h2⟩ := oC_inv h
  unfold g_X8_exchange at h1
  obtain ⟨tk0, k0, r, rfl, h1_1⟩ := pR_inv h1
  obtain ⟨bk0, h1_1z⟩ := zif_inv h1_1
  cases Nat.eq_of_beq_eq_true bk0
  obtain ⟨x1, r, rfl, h1_2⟩ := pI_inv h1_1z
  obtain ⟨x2, r, rfl, h1_3⟩ := pI_inv h1_2
  obtain ⟨rfl, h3⟩ := pE_inv h1_3
  exact ⟨_, _, ⟨_, _, rfl⟩, h2, trivial, zmeth (cM := cm_X8_exchange _) (bl := bl_X8_exchange) (ret := rI) hI (by decide) fl_X8 ll_X8 (lf_X8_exchange _) bk_X8_exchange (Nat.le_of_ble_eq_true rfl) hv (fun hF => (zml_cons (zcs hF ⟨Nat.le_refl _, Nat.le_refl _⟩ rfl (tw4 (i := 56) rfl) k_X8_isThread ⟨by decide, by decide⟩ (a_X8_isThread hI _)) (zml_cons (zcs hF ⟨Nat.le_refl _, Nat.le_refl _⟩ rfl (tw4 (i := 34) rfl) k_X8_in ⟨by decide, by decide⟩ (a_X8_in hI _)) (zml_cons (zcs hF ⟨Nat.le_refl _, Nat.le_refl _⟩ rfl (tw4 (i := 59) rfl) k_X8_copies ⟨by decide, by decide⟩ (a_X8_copies hI _)) (zml_cons (zcv hF ⟨Nat.le_refl _, Nat.le_refl _⟩ rfl (tw4 (i := 62) rfl) k_X8_isWell ⟨by decide, by decide⟩ (a_X8_isWell hI _)) (zml_cons (zcv hF ⟨Nat.le_refl _, Nat.le_refl _⟩ rfl (tw4 (i := 70) rfl) k_X8_records ⟨by decide, by decide⟩ (a_X8_records hI _)) zml_nil)))))) (fun hF hr hk => zrt_I hF hr hk) h3⟩
def bl_X8_figure : ZBl := [(0, none, [(.iload_n 0, 1, 0, []), (.ifCond .ne 9, 3, 10, [])]), (4, none, [(.sipush 343, 3, 0, []), (.goto 24, 3, 31, [])]), (10, none, [(.iload_n 0, 1, 0, []), (.iconst 1, 1, 0, []), (.if_icmp .ne 8, 3, 20, [])]), (15, none, [(.bipush 49, 2, 0, []), (.goto 14, 3, 31, [])]), (20, none, [(.iload_n 0, 1, 0, []), (.iconst 2, 1, 0, []), (.if_icmp .ne 8, 3, 30, [])]), (25, none, [(.bipush 7, 2, 0, []), (.goto 4, 3, 31, [])]), (30, none, [(.iconst 1, 1, 0, [])]), (31, none, [(.ireturn, 1, 0, [])])]
set_option maxRecDepth 20000 in
theorem bk_X8_figure : zdb cX8_figure 1 bl_X8_figure = true := by decide +kernel
noncomputable def cm_X8_figure (ρ : Type) : List (Nat × Nat × ZCall ρ) := []
theorem lf_X8_figure (ρ : Type) : LfM (cm_X8_figure ρ) := lfm_of lfm_n
noncomputable def x_X8_figure : ZJ (Int32 × Wd) := zev cF_X8 cL_X8 bl_X8_figure (cm_X8_figure (Int32 × Wd)) rI
noncomputable def f_X8_figure (x0 : Int32) (w : Wd) : Option (Int32 × Wd) := x_X8_figure 0 [] [some (zi x0)] w
noncomputable def g_X8_figure (r : List ZV) (w : Wd) : Option (Int32 × Wd) := pI r fun x0 r => pE r (f_X8_figure x0 w)
set_option maxRecDepth 20000 in
theorem e_X8_figure (x0 : Int32) (w : Wd) : f_X8_figure x0 w = (if x0 = 0 then (some ((Int32.ofInt 343), w)) else (if x0 = (Int32.ofInt 1) then (some ((Int32.ofInt 49), w)) else (if x0 = (Int32.ofInt 2) then (some ((Int32.ofInt 7), w)) else (some ((Int32.ofInt 1), w))))) := (zev_eq (lf_X8_figure _) _ _ _ _).trans rfl
theorem k_X8_figure : zLkS yX8_figure cX8_figure 1 (some .int) 1 := ⟨(tw4 (i := 102) rfl), (tw1 (i := 9) rfl), (tw4 (i := 103) rfl), by decide, by decide, by decide +kernel⟩
set_option maxHeartbeats 4000000 in
set_option maxRecDepth 20000 in
theorem a_X8_figure {l : Launch} {D : va_G} {ad : Nat → Nat → Nat} {cA : Nat → ClassId} (hI : zInj ad) {ρ : Type} (X : ρ) : zAns l D ad cA yX8_figure cX8_figure 1 (some .int) 0 0 X (fun _ => True) (cI g_X8_figure) := by
  intro as w Kf hv h
  obtain ⟨q, h1, h2⟩ := oC_inv h
  unfold g_X8_figure at h1
  obtain ⟨x0, r, rfl, h1_1⟩ := pI_inv h1
  obtain ⟨rfl, h3⟩ := pE_inv h1_1
  exact ⟨_, _, trivial, h2, trivial, zmeth (cM := cm_X8_figure _) (bl := bl_X8_figure) (ret := rI) hI (by decide) fl_X8 ll_X8 (lf_X8_figure _) bk_X8_figure (Nat.le_of_ble_eq_true rfl) hv (fun hF => zml_nil) (fun hF hr hk => zrt_I hF hr hk) h3⟩
def bl_X8_done : ZBl := [(0, none, [(.iload_n 0, 1, 0, []), (.iload_n 1, 1, 0, []), (.invokestatic 96, 3, 0, []), (.idiv, 1, 0, []), (.bipush 7, 2, 0, []), (.irem, 1, 0, []), (.ireturn, 1, 0, [])])]
set_option maxRecDepth 20000 in
theorem bk_X8_done : zdb cX8_done 2 bl_X8_done = true := by decide +kernel
noncomputable def cm_X8_done (ρ : Type) : List (Nat × Nat × ZCall ρ) := [(193, 1, cI g_X8_figure)]
theorem lf_X8_done (ρ : Type) : LfM (cm_X8_done ρ) := lfm_of (lfm_cons (lfc_I g_X8_figure) lfm_n)
noncomputable def x_X8_done : ZJ (Int32 × Wd) := zev cF_X8 cL_X8 bl_X8_done (cm_X8_done (Int32 × Wd)) rI
noncomputable def f_X8_done (x0 : Int32) (x1 : Int32) (w : Wd) : Option (Int32 × Wd) := x_X8_done 0 [] [some (zi x0), some (zi x1)] w
noncomputable def g_X8_done (r : List ZV) (w : Wd) : Option (Int32 × Wd) := pI r fun x0 r => pI r fun x1 r => pE r (f_X8_done x0 x1 w)
set_option maxRecDepth 20000 in
theorem e_X8_done (x0 : Int32) (x1 : Int32) (w : Wd) : f_X8_done x0 x1 w = (oC (f_X8_figure x1 w) fun q1 => (if q1.1 = 0 then none else (if (Int32.ofInt 7) = 0 then none else (some (((x0 / q1.1) - (x0 / q1.1) / (Int32.ofInt 7) * (Int32.ofInt 7)), q1.2))))) := (zev_eq (lf_X8_done _) _ _ _ _).trans rfl
theorem k_X8_done : zLkS yX8_done cX8_done 2 (some .int) 2 := ⟨(tw4 (i := 99) rfl), (tw1 (i := 9) rfl), (tw4 (i := 100) rfl), by decide, by decide, by decide +kernel⟩
set_option maxHeartbeats 4000000 in
set_option maxRecDepth 20000 in
theorem a_X8_done {l : Launch} {D : va_G} {ad : Nat → Nat → Nat} {cA : Nat → ClassId} (hI : zInj ad) {ρ : Type} (X : ρ) : zAns l D ad cA yX8_done cX8_done 2 (some .int) 1 20 X (fun _ => True) (cI g_X8_done) := by
  intro as w Kf hv h
  obtain ⟨q, h1, h2⟩ := oC_inv h
  unfold g_X8_done at h1
  obtain ⟨x0, r, rfl, h1_1⟩ := pI_inv h1
  obtain ⟨x1, r, rfl, h1_2⟩ := pI_inv h1_1
  obtain ⟨rfl, h3⟩ := pE_inv h1_2
  exact ⟨_, _, trivial, h2, trivial, zmeth (cM := cm_X8_done _) (bl := bl_X8_done) (ret := rI) hI (by decide) fl_X8 ll_X8 (lf_X8_done _) bk_X8_done (Nat.le_of_ble_eq_true rfl) hv (fun hF => (zml_cons (zcs hF ⟨Nat.le_refl _, Nat.le_refl _⟩ rfl (tw4 (i := 101) rfl) k_X8_figure ⟨by decide, by decide⟩ (a_X8_figure hI _)) zml_nil)) (fun hF hr hk => zrt_I hF hr hk) h3⟩
def bl_X8_laysHeld : ZBl := [(0, none, [(.iconst 0, 1, 0, []), (.istore_n 1, 1, 0, [])]), (2, some [true, true, false, false], [(.iload_n 1, 1, 0, []), (.iconst 4, 1, 0, []), (.if_icmp .ge 90, 3, 94, [])]), (7, none, [(.aload_n 0, 1, 0, []), (.getfield 25, 3, 0, []), (.bipush 7, 2, 0, []), (.iload_n 1, 1, 0, []), (.imul, 1, 0, []), (.iconst 0, 1, 0, []), (.iastore, 1, 0, []), (.iconst 0, 1, 0, []), (.istore_n 2, 1, 0, [])]), (19, some [true, true, true, false], [(.iload_n 2, 1, 0, []), (.aload_n 0, 1, 0, []), (.getfield 7, 3, 0, []), (.iload_n 1, 1, 0, []), (.iaload, 1, 0, []), (.if_icmp .ge 62, 3, 88, [])]), (29, none, [(.aload_n 0, 1, 0, []), (.iload_n 1, 1, 0, []), (.iload_n 2, 1, 0, []), (.invokevirtual 81, 3, 0, []), (.iconst 4, 1, 0, []), (.idiv, 1, 0, []), (.iconst 2, 1, 0, []), (.if_icmp .ge 7, 3, 45, [])]), (41, none, [(.iconst 0, 1, 0, []), (.goto 13, 3, 55, [])]), (45, none, [(.iconst 1, 1, 0, []), (.aload_n 0, 1, 0, []), (.iload_n 1, 1, 0, []), (.iload_n 2, 1, 0, []), (.invokevirtual 81, 3, 0, []), (.iconst 4, 1, 0, []), (.irem, 1, 0, []), (.ishl, 1, 0, [])]), (55, some [true, true, true, false], [(.istore_n 3, 1, 0, []), (.aload_n 0, 1, 0, []), (.getfield 25, 3, 0, []), (.bipush 7, 2, 0, []), (.iload_n 1, 1, 0, []), (.imul, 1, 0, []), (.iload_n 2, 1, 0, []), (.iadd, 1, 0, []), (.iconst 1, 1, 0, []), (.iadd, 1, 0, []), (.aload_n 0, 1, 0, []), (.getfield 25, 3, 0, []), (.bipush 7, 2, 0, []), (.iload_n 1, 1, 0, []), (.imul, 1, 0, []), (.iload_n 2, 1, 0, []), (.iadd, 1, 0, []), (.iaload, 1, 0, []), (.iload_n 3, 1, 0, []), (.ixor, 1, 0, []), (.iastore, 1, 0, []), (.iinc 2 1, 3, 0, []), (.goto (-66), 3, 19, [])]), (88, none, [(.iinc 1 1, 3, 0, []), (.goto (-89), 3, 2, [])]), (94, none, [(.return_, 1, 0, [])])]
set_option maxRecDepth 20000 in
theorem bk_X8_laysHeld : zdb cX8_laysHeld 4 bl_X8_laysHeld = true := by decide +kernel
noncomputable def cm_X8_laysHeld (ρ : Type) : List (Nat × Nat × ZCall ρ) := [(162, 3, cI g_X8_step)]
theorem lf_X8_laysHeld (ρ : Type) : LfM (cm_X8_laysHeld ρ) := lfm_of (lfm_cons (lfc_I g_X8_step) lfm_n)
noncomputable def x_X8_laysHeld : ZJ Wd := zev cF_X8 cL_X8 bl_X8_laysHeld (cm_X8_laysHeld Wd) rV
noncomputable def f_X8_laysHeld (k0 : Nat) (w : Wd) : Option Wd := x_X8_laysHeld 0 [] [some (zr 8 k0), none, none, none] w
noncomputable def g_X8_laysHeld (r : List ZV) (w : Wd) : Option Wd := pR r fun tk0 k0 r => zif (Nat.beq tk0 8) (pE r (f_X8_laysHeld k0 w))
set_option maxRecDepth 20000 in
theorem e_X8_laysHeld (k0 : Nat) (w : Wd) : f_X8_laysHeld k0 w = (x_X8_laysHeld 2 [] [some (zr 8 k0), some (zi (Int32.ofInt 0)), none, none] w) := (zev_eq (lf_X8_laysHeld _) _ _ _ _).trans rfl
set_option maxRecDepth 20000 in
theorem e_X8_laysHeld_2 (k0 : Nat) (x1 : Int32) (w : Wd) : x_X8_laysHeld 2 [] [some (zr 8 k0), some (zi x1), none, none] w = (if (Int32.ofInt 4) ≤ x1 then (some w) else (chk ((Int32.ofInt 7) * x1) 28 (x_X8_laysHeld 19 [] [some (zr 8 k0), some (zi x1), some (zi (Int32.ofInt 0)), none] (wI w 32 0 ((Int32.ofInt 7) * x1).toNatClampNeg (Int32.ofInt 0))))) := (zev_eq (lf_X8_laysHeld _) _ _ _ _).trans rfl
set_option maxRecDepth 20000 in
theorem e_X8_laysHeld_19 (k0 : Nat) (x1 : Int32) (x2 : Int32) (w : Wd) : x_X8_laysHeld 19 [] [some (zr 8 k0), some (zi x1), some (zi x2), none] w = (chk x1 53 (if (w.1 30 0 x1.toNatClampNeg) ≤ x2 then (x_X8_laysHeld 2 [] [some (zr 8 k0), some (zi (x1 + (Int32.ofInt 1))), none, none] w) else (oC (f_X8_step k0 x1 x2 w) fun q1 => (if (Int32.ofInt 4) = 0 then none else (if (Int32.ofInt 2) ≤ (q1.1 / (Int32.ofInt 4)) then (oC (f_X8_step k0 x1 x2 q1.2) fun q2 => (if (Int32.ofInt 4) = 0 then none else (x_X8_laysHeld 55 [zi ((Int32.ofInt 1) <<< ((q2.1 - q2.1 / (Int32.ofInt 4) * (Int32.ofInt 4)) &&& 31))] [some (zr 8 k0), some (zi x1), some (zi x2), none] q2.2))) else (x_X8_laysHeld 55 [zi (Int32.ofInt 0)] [some (zr 8 k0), some (zi x1), some (zi x2), none] q1.2)))))) := (zev_eq (lf_X8_laysHeld _) _ _ _ _).trans rfl
set_option maxRecDepth 20000 in
theorem e_X8_laysHeld_55 (s0 : Int32) (k0 : Nat) (x1 : Int32) (x2 : Int32) (w : Wd) : x_X8_laysHeld 55 [zi s0] [some (zr 8 k0), some (zi x1), some (zi x2), none] w = (chk (((Int32.ofInt 7) * x1) + x2) 28 (chk ((((Int32.ofInt 7) * x1) + x2) + (Int32.ofInt 1)) 28 (x_X8_laysHeld 19 [] [some (zr 8 k0), some (zi x1), some (zi (x2 + (Int32.ofInt 1))), none] (wI w 32 0 ((((Int32.ofInt 7) * x1) + x2) + (Int32.ofInt 1)).toNatClampNeg ((w.1 32 0 (((Int32.ofInt 7) * x1) + x2).toNatClampNeg) ^^^ s0))))) := (zev_eq (lf_X8_laysHeld _) _ _ _ _).trans rfl
theorem k_X8_laysHeld : zLkV yX8_laysHeld cX8_laysHeld 4 none 8 0 := ⟨(tw4 (i := 88) rfl), (twp (n := 22) (List.mem_append_right _ (List.mem_append_left _ (List.mem_of_getElem? (i := 10) rfl)))), (tw1 (i := 9) rfl), (tw4 (i := 89) rfl), ⟨_, _, rfl⟩, rfl, by decide, by decide, by decide +kernel⟩
set_option maxHeartbeats 4000000 in
set_option maxRecDepth 20000 in
theorem a_X8_laysHeld {l : Launch} {D : va_G} {ad : Nat → Nat → Nat} {cA : Nat → ClassId} (hI : zInj ad) {ρ : Type} (X : ρ) : zAns l D ad cA yX8_laysHeld cX8_laysHeld 4 none 1 22 X (fun as => ∃ i as', as = zr 8 i :: as') (cV g_X8_laysHeld) := by
  intro as w Kf hv h
  obtain ⟨q, h1, h2⟩ := oC_inv h
  unfold g_X8_laysHeld at h1
  obtain ⟨tk0, k0, r, rfl, h1_1⟩ := pR_inv h1
  obtain ⟨bk0, h1_1z⟩ := zif_inv h1_1
  cases Nat.eq_of_beq_eq_true bk0
  obtain ⟨rfl, h3⟩ := pE_inv h1_1z
  exact ⟨_, _, ⟨_, _, rfl⟩, h2, trivial, zmeth (cM := cm_X8_laysHeld _) (bl := bl_X8_laysHeld) (ret := rV) hI (by decide) fl_X8 ll_X8 (lf_X8_laysHeld _) bk_X8_laysHeld (Nat.le_of_ble_eq_true rfl) hv (fun hF => (zml_cons (zcv hF ⟨Nat.le_refl _, Nat.le_refl _⟩ rfl (tw4 (i := 66) rfl) k_X8_step ⟨by decide, by decide⟩ (a_X8_step hI _)) zml_nil)) (fun hF hr hk => zrt_V hF hr hk) h3⟩
def bl_X8_heldBut : ZBl := [(0, none, [(.iconst 0, 1, 0, []), (.istore_n 3, 1, 0, []), (.iconst 0, 1, 0, []), (.istore 4, 2, 0, [])]), (5, some [true, true, true, true, true], [(.iload 4, 2, 0, []), (.iconst 4, 1, 0, []), (.if_icmp .ge 39, 3, 47, [])]), (11, none, [(.iload_n 3, 1, 0, []), (.iload 4, 2, 0, []), (.iload_n 2, 1, 0, []), (.if_icmp .ne 7, 3, 22, [])]), (18, none, [(.iconst 0, 1, 0, []), (.goto 20, 3, 39, [])]), (22, none, [(.aload_n 0, 1, 0, []), (.getfield 25, 3, 0, []), (.bipush 7, 2, 0, []), (.iload 4, 2, 0, []), (.imul, 1, 0, []), (.iload_n 1, 1, 0, []), (.iload 4, 2, 0, []), (.invokestatic 99, 3, 0, []), (.iadd, 1, 0, []), (.iaload, 1, 0, [])]), (39, none, [(.ior, 1, 0, []), (.istore_n 3, 1, 0, []), (.iinc 4 1, 3, 0, []), (.goto (-39), 3, 5, [])]), (47, none, [(.iload_n 3, 1, 0, []), (.ireturn, 1, 0, [])])]
set_option maxRecDepth 20000 in
theorem bk_X8_heldBut : zdb cX8_heldBut 5 bl_X8_heldBut = true := by decide +kernel
noncomputable def cm_X8_heldBut (ρ : Type) : List (Nat × Nat × ZCall ρ) := [(199, 2, cI g_X8_done)]
theorem lf_X8_heldBut (ρ : Type) : LfM (cm_X8_heldBut ρ) := lfm_of (lfm_cons (lfc_I g_X8_done) lfm_n)
noncomputable def x_X8_heldBut : ZJ (Int32 × Wd) := zev cF_X8 cL_X8 bl_X8_heldBut (cm_X8_heldBut (Int32 × Wd)) rI
noncomputable def f_X8_heldBut (k0 : Nat) (x1 : Int32) (x2 : Int32) (w : Wd) : Option (Int32 × Wd) := x_X8_heldBut 0 [] [some (zr 8 k0), some (zi x1), some (zi x2), none, none] w
noncomputable def g_X8_heldBut (r : List ZV) (w : Wd) : Option (Int32 × Wd) := pR r fun tk0 k0 r => zif (Nat.beq tk0 8) (pI r fun x1 r => pI r fun x2 r => pE r (f_X8_heldBut k0 x1 x2 w))
set_option maxRecDepth 20000 in
theorem e_X8_heldBut (k0 : Nat) (x1 : Int32) (x2 : Int32) (w : Wd) : f_X8_heldBut k0 x1 x2 w = (x_X8_heldBut 5 [] [some (zr 8 k0), some (zi x1), some (zi x2), some (zi (Int32.ofInt 0)), some (zi (Int32.ofInt 0))] w) := (zev_eq (lf_X8_heldBut _) _ _ _ _).trans rfl
set_option maxRecDepth 20000 in
theorem e_X8_heldBut_5 (k0 : Nat) (x1 : Int32) (x2 : Int32) (x3 : Int32) (x4 : Int32) (w : Wd) : x_X8_heldBut 5 [] [some (zr 8 k0), some (zi x1), some (zi x2), some (zi x3), some (zi x4)] w = (if (Int32.ofInt 4) ≤ x4 then (some (x3, w)) else (if x4 = x2 then (x_X8_heldBut 5 [] [some (zr 8 k0), some (zi x1), some (zi x2), some (zi (x3 ||| (Int32.ofInt 0))), some (zi (x4 + (Int32.ofInt 1)))] w) else (oC (f_X8_done x1 x4 w) fun q1 => (chk (((Int32.ofInt 7) * x4) + q1.1) 28 (x_X8_heldBut 5 [] [some (zr 8 k0), some (zi x1), some (zi x2), some (zi (x3 ||| (q1.2.1 32 0 (((Int32.ofInt 7) * x4) + q1.1).toNatClampNeg))), some (zi (x4 + (Int32.ofInt 1)))] q1.2))))) := (zev_eq (lf_X8_heldBut _) _ _ _ _).trans rfl
theorem k_X8_heldBut : zLkV yX8_heldBut cX8_heldBut 5 (some .int) 8 2 := ⟨(tw4 (i := 106) rfl), (twp (n := 22) (List.mem_append_right _ (List.mem_append_left _ (List.mem_of_getElem? (i := 13) rfl)))), (tw1 (i := 9) rfl), (tw4 (i := 107) rfl), ⟨_, _, rfl⟩, rfl, by decide, by decide, by decide +kernel⟩
set_option maxHeartbeats 4000000 in
set_option maxRecDepth 20000 in
theorem a_X8_heldBut {l : Launch} {D : va_G} {ad : Nat → Nat → Nat} {cA : Nat → ClassId} (hI : zInj ad) {ρ : Type} (X : ρ) : zAns l D ad cA yX8_heldBut cX8_heldBut 5 (some .int) 2 41 X (fun as => ∃ i as', as = zr 8 i :: as') (cI g_X8_heldBut) := by
  intro as w Kf hv h
  obtain ⟨q, h1, h2⟩ := oC_inv h
  unfold g_X8_heldBut at h1
  obtain ⟨tk0, k0, r, rfl, h1_1⟩ := pR_inv h1
  obtain ⟨bk0, h1_1z⟩ := zif_inv h1_1
  cases Nat.eq_of_beq_eq_true bk0
  obtain ⟨x1, r, rfl, h1_2⟩ := pI_inv h1_1z
  obtain ⟨x2, r, rfl, h1_3⟩ := pI_inv h1_2
  obtain ⟨rfl, h3⟩ := pE_inv h1_3
  exact ⟨_, _, ⟨_, _, rfl⟩, h2, trivial, zmeth (cM := cm_X8_heldBut _) (bl := bl_X8_heldBut) (ret := rI) hI (by decide) fl_X8 ll_X8 (lf_X8_heldBut _) bk_X8_heldBut (Nat.le_of_ble_eq_true rfl) hv (fun hF => (zml_cons (zcs hF ⟨Nat.le_refl _, Nat.le_refl _⟩ rfl (tw4 (i := 98) rfl) k_X8_done ⟨by decide, by decide⟩ (a_X8_done hI _)) zml_nil)) (fun hF hr hk => zrt_I hF hr hk) h3⟩
def bl_X8_hasNext : ZBl := [(0, none, [(.iload_n 1, 1, 0, []), (.iload_n 2, 1, 0, []), (.invokestatic 99, 3, 0, []), (.aload_n 0, 1, 0, []), (.getfield 7, 3, 0, []), (.iload_n 2, 1, 0, []), (.iaload, 1, 0, []), (.if_icmp .ge 7, 3, 18, [])]), (14, none, [(.iconst 1, 1, 0, []), (.goto 4, 3, 19, [])]), (18, none, [(.iconst 0, 1, 0, [])]), (19, none, [(.ireturn, 1, 0, [])])]
set_option maxRecDepth 20000 in
theorem bk_X8_hasNext : zdb cX8_hasNext 3 bl_X8_hasNext = true := by decide +kernel
noncomputable def cm_X8_hasNext (ρ : Type) : List (Nat × Nat × ZCall ρ) := [(199, 2, cI g_X8_done)]
theorem lf_X8_hasNext (ρ : Type) : LfM (cm_X8_hasNext ρ) := lfm_of (lfm_cons (lfc_I g_X8_done) lfm_n)
noncomputable def x_X8_hasNext : ZJ (Int32 × Wd) := zev cF_X8 cL_X8 bl_X8_hasNext (cm_X8_hasNext (Int32 × Wd)) rZ
noncomputable def f_X8_hasNext (k0 : Nat) (x1 : Int32) (x2 : Int32) (w : Wd) : Option (Int32 × Wd) := x_X8_hasNext 0 [] [some (zr 8 k0), some (zi x1), some (zi x2)] w
noncomputable def g_X8_hasNext (r : List ZV) (w : Wd) : Option (Int32 × Wd) := pR r fun tk0 k0 r => zif (Nat.beq tk0 8) (pI r fun x1 r => pI r fun x2 r => pE r (f_X8_hasNext k0 x1 x2 w))
set_option maxRecDepth 20000 in
theorem e_X8_hasNext (k0 : Nat) (x1 : Int32) (x2 : Int32) (w : Wd) : f_X8_hasNext k0 x1 x2 w = (oC (f_X8_done x1 x2 w) fun q1 => (chk x2 53 (if (q1.2.1 30 0 x2.toNatClampNeg) ≤ q1.1 then (zb (Int32.ofInt 0) (some ((Int32.ofInt 0), q1.2))) else (zb (Int32.ofInt 1) (some ((Int32.ofInt 1), q1.2)))))) := (zev_eq (lf_X8_hasNext _) _ _ _ _).trans rfl
theorem k_X8_hasNext : zLkV yX8_hasNext cX8_hasNext 3 (some .boolean) 8 2 := ⟨(tw4 (i := 96) rfl), (twp (n := 22) (List.mem_append_right _ (List.mem_append_left _ (List.mem_of_getElem? (i := 12) rfl)))), (tw1 (i := 9) rfl), (tw4 (i := 97) rfl), ⟨_, _, rfl⟩, rfl, by decide, by decide, by decide +kernel⟩
set_option maxHeartbeats 4000000 in
set_option maxRecDepth 20000 in
theorem a_X8_hasNext {l : Launch} {D : va_G} {ad : Nat → Nat → Nat} {cA : Nat → ClassId} (hI : zInj ad) {ρ : Type} (X : ρ) : zAns l D ad cA yX8_hasNext cX8_hasNext 3 (some .boolean) 2 41 X (fun as => ∃ i as', as = zr 8 i :: as') (cI g_X8_hasNext) := by
  intro as w Kf hv h
  obtain ⟨q, h1, h2⟩ := oC_inv h
  unfold g_X8_hasNext at h1
  obtain ⟨tk0, k0, r, rfl, h1_1⟩ := pR_inv h1
  obtain ⟨bk0, h1_1z⟩ := zif_inv h1_1
  cases Nat.eq_of_beq_eq_true bk0
  obtain ⟨x1, r, rfl, h1_2⟩ := pI_inv h1_1z
  obtain ⟨x2, r, rfl, h1_3⟩ := pI_inv h1_2
  obtain ⟨rfl, h3⟩ := pE_inv h1_3
  exact ⟨_, _, ⟨_, _, rfl⟩, h2, trivial, zmeth (cM := cm_X8_hasNext _) (bl := bl_X8_hasNext) (ret := rZ) hI (by decide) fl_X8 ll_X8 (lf_X8_hasNext _) bk_X8_hasNext (Nat.le_of_ble_eq_true rfl) hv (fun hF => (zml_cons (zcs hF ⟨Nat.le_refl _, Nat.le_refl _⟩ rfl (tw4 (i := 98) rfl) k_X8_done ⟨by decide, by decide⟩ (a_X8_done hI _)) zml_nil)) (fun hF hr hk => zrt_Z hF hr hk) h3⟩
def bl_X8_canGo : ZBl := [(0, none, [(.aload_n 0, 1, 0, []), (.iload_n 1, 1, 0, []), (.iload_n 2, 1, 0, []), (.invokevirtual 102, 3, 0, []), (.ifCond .ne 5, 3, 11, [])]), (9, none, [(.iconst 0, 1, 0, []), (.ireturn, 1, 0, [])]), (11, none, [(.aload_n 0, 1, 0, []), (.iload_n 2, 1, 0, []), (.iload_n 1, 1, 0, []), (.iload_n 2, 1, 0, []), (.invokestatic 99, 3, 0, []), (.invokevirtual 81, 3, 0, []), (.istore_n 3, 1, 0, []), (.iload_n 3, 1, 0, []), (.iconst 4, 1, 0, []), (.idiv, 1, 0, []), (.iconst 2, 1, 0, []), (.if_icmp .ne 18, 3, 44, [])]), (29, none, [(.aload_n 0, 1, 0, []), (.iload_n 1, 1, 0, []), (.iload_n 2, 1, 0, []), (.invokevirtual 106, 3, 0, []), (.iload_n 3, 1, 0, []), (.iconst 4, 1, 0, []), (.irem, 1, 0, []), (.ishr, 1, 0, []), (.iconst 1, 1, 0, []), (.iand, 1, 0, []), (.ifCond .ne 7, 3, 48, [])]), (44, none, [(.iconst 1, 1, 0, []), (.goto 4, 3, 49, [])]), (48, none, [(.iconst 0, 1, 0, [])]), (49, none, [(.ireturn, 1, 0, [])])]
set_option maxRecDepth 20000 in
theorem bk_X8_canGo : zdb cX8_canGo 4 bl_X8_canGo = true := by decide +kernel
noncomputable def cm_X8_canGo (ρ : Type) : List (Nat × Nat × ZCall ρ) := [(204, 3, cI g_X8_hasNext), (199, 2, cI g_X8_done), (162, 3, cI g_X8_step), (212, 3, cI g_X8_heldBut)]
theorem lf_X8_canGo (ρ : Type) : LfM (cm_X8_canGo ρ) := lfm_of (lfm_cons (lfc_I g_X8_hasNext) (lfm_cons (lfc_I g_X8_done) (lfm_cons (lfc_I g_X8_step) (lfm_cons (lfc_I g_X8_heldBut) lfm_n))))
noncomputable def x_X8_canGo : ZJ (Int32 × Wd) := zev cF_X8 cL_X8 bl_X8_canGo (cm_X8_canGo (Int32 × Wd)) rZ
noncomputable def f_X8_canGo (k0 : Nat) (x1 : Int32) (x2 : Int32) (w : Wd) : Option (Int32 × Wd) := x_X8_canGo 0 [] [some (zr 8 k0), some (zi x1), some (zi x2), none] w
noncomputable def g_X8_canGo (r : List ZV) (w : Wd) : Option (Int32 × Wd) := pR r fun tk0 k0 r => zif (Nat.beq tk0 8) (pI r fun x1 r => pI r fun x2 r => pE r (f_X8_canGo k0 x1 x2 w))
set_option maxRecDepth 20000 in
theorem e_X8_canGo (k0 : Nat) (x1 : Int32) (x2 : Int32) (w : Wd) : f_X8_canGo k0 x1 x2 w = (oC (f_X8_hasNext k0 x1 x2 w) fun q1 => (if q1.1 = 0 then (zb (Int32.ofInt 0) (some ((Int32.ofInt 0), q1.2))) else (oC (f_X8_done x1 x2 q1.2) fun q2 => (oC (f_X8_step k0 x2 q2.1 q2.2) fun q3 => (if (Int32.ofInt 4) = 0 then none else (if (q3.1 / (Int32.ofInt 4)) = (Int32.ofInt 2) then (oC (f_X8_heldBut k0 x1 x2 q3.2) fun q4 => (if (Int32.ofInt 4) = 0 then none else (if ((q4.1 >>> ((q3.1 - q3.1 / (Int32.ofInt 4) * (Int32.ofInt 4)) &&& 31)) &&& (Int32.ofInt 1)) = 0 then (zb (Int32.ofInt 1) (some ((Int32.ofInt 1), q4.2))) else (zb (Int32.ofInt 0) (some ((Int32.ofInt 0), q4.2)))))) else (zb (Int32.ofInt 1) (some ((Int32.ofInt 1), q3.2))))))))) := (zev_eq (lf_X8_canGo _) _ _ _ _).trans rfl
theorem k_X8_canGo : zLkV yX8_canGo cX8_canGo 4 (some .boolean) 8 2 := ⟨(tw4 (i := 92) rfl), (twp (n := 22) (List.mem_append_right _ (List.mem_append_left _ (List.mem_of_getElem? (i := 11) rfl)))), (tw1 (i := 9) rfl), (tw4 (i := 93) rfl), ⟨_, _, rfl⟩, rfl, by decide, by decide, by decide +kernel⟩
set_option maxHeartbeats 4000000 in
set_option maxRecDepth 20000 in
theorem a_X8_canGo {l : Launch} {D : va_G} {ad : Nat → Nat → Nat} {cA : Nat → ClassId} (hI : zInj ad) {ρ : Type} (X : ρ) : zAns l D ad cA yX8_canGo cX8_canGo 4 (some .boolean) 3 65 X (fun as => ∃ i as', as = zr 8 i :: as') (cI g_X8_canGo) := by
  intro as w Kf hv h
  obtain ⟨q, h1, h2⟩ := oC_inv h
  unfold g_X8_canGo at h1
  obtain ⟨tk0, k0, r, rfl, h1_1⟩ := pR_inv h1
  obtain ⟨bk0, h1_1z⟩ := zif_inv h1_1
  cases Nat.eq_of_beq_eq_true bk0
  obtain ⟨x1, r, rfl, h1_2⟩ := pI_inv h1_1z
  obtain ⟨x2, r, rfl, h1_3⟩ := pI_inv h1_2
  obtain ⟨rfl, h3⟩ := pE_inv h1_3
  exact ⟨_, _, ⟨_, _, rfl⟩, h2, trivial, zmeth (cM := cm_X8_canGo _) (bl := bl_X8_canGo) (ret := rZ) hI (by decide) fl_X8 ll_X8 (lf_X8_canGo _) bk_X8_canGo (Nat.le_of_ble_eq_true rfl) hv (fun hF => (zml_cons (zcv hF ⟨Nat.le_refl _, Nat.le_refl _⟩ rfl (tw4 (i := 94) rfl) k_X8_hasNext ⟨by decide, by decide⟩ (a_X8_hasNext hI _)) (zml_cons (zcs hF ⟨Nat.le_refl _, Nat.le_refl _⟩ rfl (tw4 (i := 98) rfl) k_X8_done ⟨by decide, by decide⟩ (a_X8_done hI _)) (zml_cons (zcv hF ⟨Nat.le_refl _, Nat.le_refl _⟩ rfl (tw4 (i := 66) rfl) k_X8_step ⟨by decide, by decide⟩ (a_X8_step hI _)) (zml_cons (zcv hF ⟨Nat.le_refl _, Nat.le_refl _⟩ rfl (tw4 (i := 104) rfl) k_X8_heldBut ⟨by decide, by decide⟩ (a_X8_heldBut hI _)) zml_nil))))) (fun hF hr hk => zrt_Z hF hr hk) h3⟩
def bl_X8_isEnd : ZBl := [(0, none, [(.aload_n 0, 1, 0, []), (.iload_n 1, 1, 0, []), (.iconst 0, 1, 0, []), (.invokevirtual 109, 3, 0, []), (.ifCond .ne 34, 3, 40, [])]), (9, none, [(.aload_n 0, 1, 0, []), (.iload_n 1, 1, 0, []), (.iconst 1, 1, 0, []), (.invokevirtual 109, 3, 0, []), (.ifCond .ne 25, 3, 40, [])]), (18, none, [(.aload_n 0, 1, 0, []), (.iload_n 1, 1, 0, []), (.iconst 2, 1, 0, []), (.invokevirtual 109, 3, 0, []), (.ifCond .ne 16, 3, 40, [])]), (27, none, [(.aload_n 0, 1, 0, []), (.iload_n 1, 1, 0, []), (.iconst 3, 1, 0, []), (.invokevirtual 109, 3, 0, []), (.ifCond .ne 7, 3, 40, [])]), (36, none, [(.iconst 1, 1, 0, []), (.goto 4, 3, 41, [])]), (40, none, [(.iconst 0, 1, 0, [])]), (41, none, [(.ireturn, 1, 0, [])])]
set_option maxRecDepth 20000 in
theorem bk_X8_isEnd : zdb cX8_isEnd 2 bl_X8_isEnd = true := by decide +kernel
noncomputable def cm_X8_isEnd (ρ : Type) : List (Nat × Nat × ZCall ρ) := [(218, 3, cI g_X8_canGo)]
theorem lf_X8_isEnd (ρ : Type) : LfM (cm_X8_isEnd ρ) := lfm_of (lfm_cons (lfc_I g_X8_canGo) lfm_n)
noncomputable def x_X8_isEnd : ZJ (Int32 × Wd) := zev cF_X8 cL_X8 bl_X8_isEnd (cm_X8_isEnd (Int32 × Wd)) rZ
noncomputable def f_X8_isEnd (k0 : Nat) (x1 : Int32) (w : Wd) : Option (Int32 × Wd) := x_X8_isEnd 0 [] [some (zr 8 k0), some (zi x1)] w
noncomputable def g_X8_isEnd (r : List ZV) (w : Wd) : Option (Int32 × Wd) := pR r fun tk0 k0 r => zif (Nat.beq tk0 8) (pI r fun x1 r => pE r (f_X8_isEnd k0 x1 w))
set_option maxRecDepth 20000 in
theorem e_X8_isEnd (k0 : Nat) (x1 : Int32) (w : Wd) : f_X8_isEnd k0 x1 w = (oC (f_X8_canGo k0 x1 (Int32.ofInt 0) w) fun q1 => (if q1.1 = 0 then (oC (f_X8_canGo k0 x1 (Int32.ofInt 1) q1.2) fun q2 => (if q2.1 = 0 then (oC (f_X8_canGo k0 x1 (Int32.ofInt 2) q2.2) fun q3 => (if q3.1 = 0 then (oC (f_X8_canGo k0 x1 (Int32.ofInt 3) q3.2) fun q4 => (if q4.1 = 0 then (zb (Int32.ofInt 1) (some ((Int32.ofInt 1), q4.2))) else (zb (Int32.ofInt 0) (some ((Int32.ofInt 0), q4.2))))) else (zb (Int32.ofInt 0) (some ((Int32.ofInt 0), q3.2))))) else (zb (Int32.ofInt 0) (some ((Int32.ofInt 0), q2.2))))) else (zb (Int32.ofInt 0) (some ((Int32.ofInt 0), q1.2))))) := (zev_eq (lf_X8_isEnd _) _ _ _ _).trans rfl
theorem k_X8_isEnd : zLkV yX8_isEnd cX8_isEnd 2 (some .boolean) 8 1 := ⟨(tw4 (i := 110) rfl), (twp (n := 22) (List.mem_append_right _ (List.mem_append_left _ (List.mem_of_getElem? (i := 14) rfl)))), (tw1 (i := 9) rfl), (tw4 (i := 111) rfl), ⟨_, _, rfl⟩, rfl, by decide, by decide, by decide +kernel⟩
set_option maxHeartbeats 4000000 in
set_option maxRecDepth 20000 in
theorem a_X8_isEnd {l : Launch} {D : va_G} {ad : Nat → Nat → Nat} {cA : Nat → ClassId} (hI : zInj ad) {ρ : Type} (X : ρ) : zAns l D ad cA yX8_isEnd cX8_isEnd 2 (some .boolean) 4 88 X (fun as => ∃ i as', as = zr 8 i :: as') (cI g_X8_isEnd) := by
  intro as w Kf hv h
  obtain ⟨q, h1, h2⟩ := oC_inv h
  unfold g_X8_isEnd at h1
  obtain ⟨tk0, k0, r, rfl, h1_1⟩ := pR_inv h1
  obtain ⟨bk0, h1_1z⟩ := zif_inv h1_1
  cases Nat.eq_of_beq_eq_true bk0
  obtain ⟨x1, r, rfl, h1_2⟩ := pI_inv h1_1z
  obtain ⟨rfl, h3⟩ := pE_inv h1_2
  exact ⟨_, _, ⟨_, _, rfl⟩, h2, trivial, zmeth (cM := cm_X8_isEnd _) (bl := bl_X8_isEnd) (ret := rZ) hI (by decide) fl_X8 ll_X8 (lf_X8_isEnd _) bk_X8_isEnd (Nat.le_of_ble_eq_true rfl) hv (fun hF => (zml_cons (zcv hF ⟨Nat.le_refl _, Nat.le_refl _⟩ rfl (tw4 (i := 90) rfl) k_X8_canGo ⟨by decide, by decide⟩ (a_X8_canGo hI _)) zml_nil)) (fun hF hr hk => zrt_Z hF hr hk) h3⟩
def bl_X8_isDeadlock : ZBl := [(0, none, [(.aload_n 0, 1, 0, []), (.iload_n 1, 1, 0, []), (.invokevirtual 112, 3, 0, []), (.ifCond .eq 43, 3, 48, [])]), (8, none, [(.aload_n 0, 1, 0, []), (.iload_n 1, 1, 0, []), (.iconst 0, 1, 0, []), (.invokevirtual 102, 3, 0, []), (.ifCond .ne 30, 3, 44, [])]), (17, none, [(.aload_n 0, 1, 0, []), (.iload_n 1, 1, 0, []), (.iconst 1, 1, 0, []), (.invokevirtual 102, 3, 0, []), (.ifCond .ne 21, 3, 44, [])]), (26, none, [(.aload_n 0, 1, 0, []), (.iload_n 1, 1, 0, []), (.iconst 2, 1, 0, []), (.invokevirtual 102, 3, 0, []), (.ifCond .ne 12, 3, 44, [])]), (35, none, [(.aload_n 0, 1, 0, []), (.iload_n 1, 1, 0, []), (.iconst 3, 1, 0, []), (.invokevirtual 102, 3, 0, []), (.ifCond .eq 7, 3, 48, [])]), (44, none, [(.iconst 1, 1, 0, []), (.goto 4, 3, 49, [])]), (48, none, [(.iconst 0, 1, 0, [])]), (49, none, [(.ireturn, 1, 0, [])])]
set_option maxRecDepth 20000 in
theorem bk_X8_isDeadlock : zdb cX8_isDeadlock 2 bl_X8_isDeadlock = true := by decide +kernel
noncomputable def cm_X8_isDeadlock (ρ : Type) : List (Nat × Nat × ZCall ρ) := [(224, 2, cI g_X8_isEnd), (204, 3, cI g_X8_hasNext)]
theorem lf_X8_isDeadlock (ρ : Type) : LfM (cm_X8_isDeadlock ρ) := lfm_of (lfm_cons (lfc_I g_X8_isEnd) (lfm_cons (lfc_I g_X8_hasNext) lfm_n))
noncomputable def x_X8_isDeadlock : ZJ (Int32 × Wd) := zev cF_X8 cL_X8 bl_X8_isDeadlock (cm_X8_isDeadlock (Int32 × Wd)) rZ
noncomputable def f_X8_isDeadlock (k0 : Nat) (x1 : Int32) (w : Wd) : Option (Int32 × Wd) := x_X8_isDeadlock 0 [] [some (zr 8 k0), some (zi x1)] w
noncomputable def g_X8_isDeadlock (r : List ZV) (w : Wd) : Option (Int32 × Wd) := pR r fun tk0 k0 r => zif (Nat.beq tk0 8) (pI r fun x1 r => pE r (f_X8_isDeadlock k0 x1 w))
set_option maxRecDepth 20000 in
theorem e_X8_isDeadlock (k0 : Nat) (x1 : Int32) (w : Wd) : f_X8_isDeadlock k0 x1 w = (oC (f_X8_isEnd k0 x1 w) fun q1 => (if q1.1 = 0 then (zb (Int32.ofInt 0) (some ((Int32.ofInt 0), q1.2))) else (oC (f_X8_hasNext k0 x1 (Int32.ofInt 0) q1.2) fun q2 => (if q2.1 = 0 then (oC (f_X8_hasNext k0 x1 (Int32.ofInt 1) q2.2) fun q3 => (if q3.1 = 0 then (oC (f_X8_hasNext k0 x1 (Int32.ofInt 2) q3.2) fun q4 => (if q4.1 = 0 then (oC (f_X8_hasNext k0 x1 (Int32.ofInt 3) q4.2) fun q5 => (if q5.1 = 0 then (zb (Int32.ofInt 0) (some ((Int32.ofInt 0), q5.2))) else (zb (Int32.ofInt 1) (some ((Int32.ofInt 1), q5.2))))) else (zb (Int32.ofInt 1) (some ((Int32.ofInt 1), q4.2))))) else (zb (Int32.ofInt 1) (some ((Int32.ofInt 1), q3.2))))) else (zb (Int32.ofInt 1) (some ((Int32.ofInt 1), q2.2))))))) := (zev_eq (lf_X8_isDeadlock _) _ _ _ _).trans rfl
theorem k_X8_isDeadlock : zLkV yX8_isDeadlock cX8_isDeadlock 2 (some .boolean) 8 1 := ⟨(tw4 (i := 114) rfl), (twp (n := 22) (List.mem_append_right _ (List.mem_append_left _ (List.mem_of_getElem? (i := 15) rfl)))), (tw1 (i := 9) rfl), (tw4 (i := 115) rfl), ⟨_, _, rfl⟩, rfl, by decide, by decide, by decide +kernel⟩
set_option maxHeartbeats 4000000 in
set_option maxRecDepth 20000 in
theorem a_X8_isDeadlock {l : Launch} {D : va_G} {ad : Nat → Nat → Nat} {cA : Nat → ClassId} (hI : zInj ad) {ρ : Type} (X : ρ) : zAns l D ad cA yX8_isDeadlock cX8_isDeadlock 2 (some .boolean) 5 109 X (fun as => ∃ i as', as = zr 8 i :: as') (cI g_X8_isDeadlock) := by
  intro as w Kf hv h
  obtain ⟨q, h1, h2⟩ := oC_inv h
  unfold g_X8_isDeadlock at h1
  obtain ⟨tk0, k0, r, rfl, h1_1⟩ := pR_inv h1
  obtain ⟨bk0, h1_1z⟩ := zif_inv h1_1
  cases Nat.eq_of_beq_eq_true bk0
  obtain ⟨x1, r, rfl, h1_2⟩ := pI_inv h1_1z
  obtain ⟨rfl, h3⟩ := pE_inv h1_2
  exact ⟨_, _, ⟨_, _, rfl⟩, h2, trivial, zmeth (cM := cm_X8_isDeadlock _) (bl := bl_X8_isDeadlock) (ret := rZ) hI (by decide) fl_X8 ll_X8 (lf_X8_isDeadlock _) bk_X8_isDeadlock (Nat.le_of_ble_eq_true rfl) hv (fun hF => (zml_cons (zcv hF ⟨Nat.le_refl _, Nat.le_refl _⟩ rfl (tw4 (i := 108) rfl) k_X8_isEnd ⟨by decide, by decide⟩ (a_X8_isEnd hI _)) (zml_cons (zcv hF ⟨Nat.le_refl _, Nat.le_refl _⟩ rfl (tw4 (i := 94) rfl) k_X8_hasNext ⟨by decide, by decide⟩ (a_X8_hasNext hI _)) zml_nil))) (fun hF hr hk => zrt_Z hF hr hk) h3⟩
def bl_X8_laysWays : ZBl := [(0, none, [(.aload_n 0, 1, 0, []), (.invokevirtual 115, 3, 0, []), (.iconst 0, 1, 0, []), (.istore_n 1, 1, 0, [])]), (6, some [true, true, false], [(.iload_n 1, 1, 0, []), (.sipush 2401, 3, 0, []), (.if_icmp .ge 16, 3, 26, [])]), (13, none, [(.aload_n 0, 1, 0, []), (.getfield 28, 3, 0, []), (.iload_n 1, 1, 0, []), (.lconst 0, 1, 0, []), (.lastore, 1, 0, []), (.iinc 1 1, 3, 0, []), (.goto (-17), 3, 6, [])]), (26, none, [(.aload_n 0, 1, 0, []), (.getfield 28, 3, 0, []), (.iconst 0, 1, 0, []), (.lconst 1, 1, 0, []), (.lastore, 1, 0, []), (.iconst 0, 1, 0, []), (.istore_n 1, 1, 0, [])]), (35, some [true, true, false], [(.iload_n 1, 1, 0, []), (.sipush 2401, 3, 0, []), (.if_icmp .ge 62, 3, 101, [])]), (42, none, [(.iconst 0, 1, 0, []), (.istore_n 2, 1, 0, [])]), (44, some [true, true, true], [(.iload_n 2, 1, 0, []), (.iconst 4, 1, 0, []), (.if_icmp .ge 49, 3, 95, [])]), (49, none, [(.aload_n 0, 1, 0, []), (.getfield 28, 3, 0, []), (.iload_n 1, 1, 0, []), (.laload, 1, 0, []), (.lconst 0, 1, 0, []), (.lcmp, 1, 0, []), (.ifCond .le 38, 3, 95, [])]), (60, none, [(.aload_n 0, 1, 0, []), (.iload_n 1, 1, 0, []), (.iload_n 2, 1, 0, []), (.invokevirtual 109, 3, 0, []), (.ifCond .eq 23, 3, 89, [])]), (69, none, [(.aload_n 0, 1, 0, []), (.getfield 28, 3, 0, []), (.iload_n 1, 1, 0, []), (.iload_n 2, 1, 0, []), (.invokestatic 96, 3, 0, []), (.iadd, 1, 0, []), (.dup2, 1, 0, []), (.laload, 1, 0, []), (.aload_n 0, 1, 0, []), (.getfield 28, 3, 0, []), (.iload_n 1, 1, 0, []), (.laload, 1, 0, []), (.ladd, 1, 0, []), (.lastore, 1, 0, [])]), (89, none, [(.iinc 2 1, 3, 0, []), (.goto (-48), 3, 44, [])]), (95, none, [(.iinc 1 1, 3, 0, []), (.goto (-63), 3, 35, [])]), (101, none, [(.return_, 1, 0, [])])]
set_option maxRecDepth 20000 in
theorem bk_X8_laysWays : zdb cX8_laysWays 3 bl_X8_laysWays = true := by decide +kernel
noncomputable def cm_X8_laysWays (ρ : Type) : List (Nat × Nat × ZCall ρ) := [(230, 1, cV g_X8_laysHeld), (218, 3, cI g_X8_canGo), (193, 1, cI g_X8_figure)]
theorem lf_X8_laysWays (ρ : Type) : LfM (cm_X8_laysWays ρ) := lfm_of (lfm_cons (lfc_V g_X8_laysHeld) (lfm_cons (lfc_I g_X8_canGo) (lfm_cons (lfc_I g_X8_figure) lfm_n)))
noncomputable def x_X8_laysWays : ZJ Wd := zev cF_X8 cL_X8 bl_X8_laysWays (cm_X8_laysWays Wd) rV
noncomputable def f_X8_laysWays (k0 : Nat) (w : Wd) : Option Wd := x_X8_laysWays 0 [] [some (zr 8 k0), none, none] w
noncomputable def g_X8_laysWays (r : List ZV) (w : Wd) : Option Wd := pR r fun tk0 k0 r => zif (Nat.beq tk0 8) (pE r (f_X8_laysWays k0 w))
set_option maxRecDepth 20000 in
theorem e_X8_laysWays (k0 : Nat) (w : Wd) : f_X8_laysWays k0 w = (oC (f_X8_laysHeld k0 w) fun q1 => (x_X8_laysWays 6 [] [some (zr 8 k0), some (zi (Int32.ofInt 0)), none] q1)) := (zev_eq (lf_X8_laysWays _) _ _ _ _).trans rfl
set_option maxRecDepth 20000 in
theorem e_X8_laysWays_6 (k0 : Nat) (x1 : Int32) (w : Wd) : x_X8_laysWays 6 [] [some (zr 8 k0), some (zi x1), none] w = (if (Int32.ofInt 2401) ≤ x1 then (chk (Int32.ofInt 0) 2401 (x_X8_laysWays 35 [] [some (zr 8 k0), some (zi (Int32.ofInt 0)), none] (wL w 33 0 (Int32.ofInt 0).toNatClampNeg (Int64.ofInt 1)))) else (chk x1 2401 (x_X8_laysWays 6 [] [some (zr 8 k0), some (zi (x1 + (Int32.ofInt 1))), none] (wL w 33 0 x1.toNatClampNeg (Int64.ofInt 0))))) := (zev_eq (lf_X8_laysWays _) _ _ _ _).trans rfl
set_option maxRecDepth 20000 in
theorem e_X8_laysWays_35 (k0 : Nat) (x1 : Int32) (w : Wd) : x_X8_laysWays 35 [] [some (zr 8 k0), some (zi x1), none] w = (if (Int32.ofInt 2401) ≤ x1 then (some w) else (x_X8_laysWays 44 [] [some (zr 8 k0), some (zi x1), some (zi (Int32.ofInt 0))] w)) := (zev_eq (lf_X8_laysWays _) _ _ _ _).trans rfl
set_option maxRecDepth 20000 in
theorem e_X8_laysWays_44 (k0 : Nat) (x1 : Int32) (x2 : Int32) (w : Wd) : x_X8_laysWays 44 [] [some (zr 8 k0), some (zi x1), some (zi x2)] w = (if (Int32.ofInt 4) ≤ x2 then (x_X8_laysWays 35 [] [some (zr 8 k0), some (zi (x1 + (Int32.ofInt 1))), none] w) else (chk x1 2401 (if (lg_cmp (w.2 33 0 x1.toNatClampNeg) (Int64.ofInt 0)) ≤ 0 then (x_X8_laysWays 35 [] [some (zr 8 k0), some (zi (x1 + (Int32.ofInt 1))), none] w) else (oC (f_X8_canGo k0 x1 x2 w) fun q1 => (if q1.1 = 0 then (x_X8_laysWays 44 [] [some (zr 8 k0), some (zi x1), some (zi (x2 + (Int32.ofInt 1)))] q1.2) else (oC (f_X8_figure x2 q1.2) fun q2 => (chk (x1 + q2.1) 2401 (chk x1 2401 (chk (x1 + q2.1) 2401 (x_X8_laysWays 44 [] [some (zr 8 k0), some (zi x1), some (zi (x2 + (Int32.ofInt 1)))] (wL q2.2 33 0 (x1 + q2.1).toNatClampNeg ((q2.2.2 33 0 (x1 + q2.1).toNatClampNeg) + (q2.2.2 33 0 x1.toNatClampNeg))))))))))))) := (zev_eq (lf_X8_laysWays _) _ _ _ _).trans rfl
theorem k_X8_laysWays : zLkV yX8_laysWays cX8_laysWays 3 none 8 0 := ⟨(tw4 (i := 84) rfl), (twp (n := 22) (List.mem_append_right _ (List.mem_append_left _ (List.mem_of_getElem? (i := 9) rfl)))), (tw1 (i := 9) rfl), (tw4 (i := 85) rfl), ⟨_, _, rfl⟩, rfl, by decide, by decide, by decide +kernel⟩
set_option maxHeartbeats 4000000 in
set_option maxRecDepth 20000 in
theorem a_X8_laysWays {l : Launch} {D : va_G} {ad : Nat → Nat → Nat} {cA : Nat → ClassId} (hI : zInj ad) {ρ : Type} (X : ρ) : zAns l D ad cA yX8_laysWays cX8_laysWays 3 none 4 88 X (fun as => ∃ i as', as = zr 8 i :: as') (cV g_X8_laysWays) := by
  intro as w Kf hv h
  obtain ⟨q, h1, h2⟩ := oC_inv h
  unfold g_X8_laysWays at h1
  obtain ⟨tk0, k0, r, rfl, h1_1⟩ := pR_inv h1
  obtain ⟨bk0, h1_1z⟩ := zif_inv h1_1
  cases Nat.eq_of_beq_eq_true bk0
  obtain ⟨rfl, h3⟩ := pE_inv h1_1z
  exact ⟨_, _, ⟨_, _, rfl⟩, h2, trivial, zmeth (cM := cm_X8_laysWays _) (bl := bl_X8_laysWays) (ret := rV) hI (by decide) fl_X8 ll_X8 (lf_X8_laysWays _) bk_X8_laysWays (Nat.le_of_ble_eq_true rfl) hv (fun hF => (zml_cons (zcv hF ⟨Nat.le_refl _, Nat.le_refl _⟩ rfl (tw4 (i := 86) rfl) k_X8_laysHeld ⟨by decide, by decide⟩ (a_X8_laysHeld hI _)) (zml_cons (zcv hF ⟨Nat.le_refl _, Nat.le_refl _⟩ rfl (tw4 (i := 90) rfl) k_X8_canGo ⟨by decide, by decide⟩ (a_X8_canGo hI _)) (zml_cons (zcs hF ⟨Nat.le_refl _, Nat.le_refl _⟩ rfl (tw4 (i := 101) rfl) k_X8_figure ⟨by decide, by decide⟩ (a_X8_figure hI _)) zml_nil)))) (fun hF hr hk => zrt_V hF hr hk) h3⟩
def bl_X8_length : ZBl := [(0, none, [(.iload_n 1, 1, 0, []), (.iconst 0, 1, 0, []), (.invokestatic 99, 3, 0, []), (.iload_n 1, 1, 0, []), (.iconst 1, 1, 0, []), (.invokestatic 99, 3, 0, []), (.iadd, 1, 0, []), (.iload_n 1, 1, 0, []), (.iconst 2, 1, 0, []), (.invokestatic 99, 3, 0, []), (.iadd, 1, 0, []), (.iload_n 1, 1, 0, []), (.iconst 3, 1, 0, []), (.invokestatic 99, 3, 0, []), (.iadd, 1, 0, []), (.ireturn, 1, 0, [])])]
set_option maxRecDepth 20000 in
theorem bk_X8_length : zdb cX8_length 2 bl_X8_length = true := by decide +kernel
noncomputable def cm_X8_length (ρ : Type) : List (Nat × Nat × ZCall ρ) := [(199, 2, cI g_X8_done)]
theorem lf_X8_length (ρ : Type) : LfM (cm_X8_length ρ) := lfm_of (lfm_cons (lfc_I g_X8_done) lfm_n)
noncomputable def x_X8_length : ZJ (Int32 × Wd) := zev cF_X8 cL_X8 bl_X8_length (cm_X8_length (Int32 × Wd)) rI
noncomputable def f_X8_length (k0 : Nat) (x1 : Int32) (w : Wd) : Option (Int32 × Wd) := x_X8_length 0 [] [some (zr 8 k0), some (zi x1)] w
noncomputable def g_X8_length (r : List ZV) (w : Wd) : Option (Int32 × Wd) := pR r fun tk0 k0 r => zif (Nat.beq tk0 8) (pI r fun x1 r => pE r (f_X8_length k0 x1 w))
set_option maxRecDepth 20000 in
theorem e_X8_length (k0 : Nat) (x1 : Int32) (w : Wd) : f_X8_length k0 x1 w = (oC (f_X8_done x1 (Int32.ofInt 0) w) fun q1 => (oC (f_X8_done x1 (Int32.ofInt 1) q1.2) fun q2 => (oC (f_X8_done x1 (Int32.ofInt 2) q2.2) fun q3 => (oC (f_X8_done x1 (Int32.ofInt 3) q3.2) fun q4 => (some ((((q1.1 + q2.1) + q3.1) + q4.1), q4.2)))))) := (zev_eq (lf_X8_length _) _ _ _ _).trans rfl
theorem k_X8_length : zLkV yX8_length cX8_length 2 (some .int) 8 1 := ⟨(tw4 (i := 130) rfl), (twp (n := 22) (List.mem_append_right _ (List.mem_append_right _ (List.mem_of_getElem? (i := 2) rfl)))), (tw1 (i := 9) rfl), (tw4 (i := 131) rfl), ⟨_, _, rfl⟩, rfl, by decide, by decide, by decide +kernel⟩
set_option maxHeartbeats 4000000 in
set_option maxRecDepth 20000 in
theorem a_X8_length {l : Launch} {D : va_G} {ad : Nat → Nat → Nat} {cA : Nat → ClassId} (hI : zInj ad) {ρ : Type} (X : ρ) : zAns l D ad cA yX8_length cX8_length 2 (some .int) 2 41 X (fun as => ∃ i as', as = zr 8 i :: as') (cI g_X8_length) := by
  intro as w Kf hv h
  obtain ⟨q, h1, h2⟩ := oC_inv h
  unfold g_X8_length at h1
  obtain ⟨tk0, k0, r, rfl, h1_1⟩ := pR_inv h1
  obtain ⟨bk0, h1_1z⟩ := zif_inv h1_1
  cases Nat.eq_of_beq_eq_true bk0
  obtain ⟨x1, r, rfl, h1_2⟩ := pI_inv h1_1z
  obtain ⟨rfl, h3⟩ := pE_inv h1_2
  exact ⟨_, _, ⟨_, _, rfl⟩, h2, trivial, zmeth (cM := cm_X8_length _) (bl := bl_X8_length) (ret := rI) hI (by decide) fl_X8 ll_X8 (lf_X8_length _) bk_X8_length (Nat.le_of_ble_eq_true rfl) hv (fun hF => (zml_cons (zcs hF ⟨Nat.le_refl _, Nat.le_refl _⟩ rfl (tw4 (i := 98) rfl) k_X8_done ⟨by decide, by decide⟩ (a_X8_done hI _)) zml_nil)) (fun hF hr hk => zrt_I hF hr hk) h3⟩
