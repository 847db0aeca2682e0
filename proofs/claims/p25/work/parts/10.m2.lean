def bl_X7_codeOf : ZBl := [(0, none, [(.iload_n 0, 1, 0, []), (.iconst 2, 1, 0, []), (.ishl, 1, 0, []), (.iload_n 1, 1, 0, []), (.ior, 1, 0, []), (.ireturn, 1, 0, [])])]
set_option maxRecDepth 20000 in
theorem bk_X7_codeOf : zdb cX7_codeOf 2 bl_X7_codeOf = true := by decide +kernel
noncomputable def cm_X7_codeOf (ρ : Type) : List (Nat × Nat × ZCall ρ) := []
theorem lf_X7_codeOf (ρ : Type) : LfM (cm_X7_codeOf ρ) := lfm_of lfm_n
noncomputable def x_X7_codeOf : ZJ (Int32 × Wd) := zev cF_X7 cL_X7 bl_X7_codeOf (cm_X7_codeOf (Int32 × Wd)) rI
noncomputable def f_X7_codeOf (x0 : Int32) (x1 : Int32) (w : Wd) : Option (Int32 × Wd) := x_X7_codeOf 0 [] [some (zi x0), some (zi x1)] w
noncomputable def g_X7_codeOf (r : List ZV) (w : Wd) : Option (Int32 × Wd) := pI r fun x0 r => pI r fun x1 r => pE r (f_X7_codeOf x0 x1 w)
set_option maxRecDepth 20000 in
theorem e_X7_codeOf (x0 : Int32) (x1 : Int32) (w : Wd) : f_X7_codeOf x0 x1 w = (some (((x0 <<< ((Int32.ofInt 2) &&& 31)) ||| x1), w)) := (zev_eq (lf_X7_codeOf _) _ _ _ _).trans rfl
theorem k_X7_codeOf : zLkS yX7_codeOf cX7_codeOf 2 (some .int) 2 := ⟨(tw2 (i := 19) rfl), (tw1 (i := 1) rfl), (tw2 (i := 20) rfl), by decide, by decide, by decide +kernel⟩
set_option maxHeartbeats 4000000 in
set_option maxRecDepth 20000 in
theorem a_X7_codeOf {l : Launch} {D : va_G} {ad : Nat → Nat → Nat} {cA : Nat → ClassId} (hI : zInj ad) {ρ : Type} (X : ρ) : zAns l D ad cA yX7_codeOf cX7_codeOf 2 (some .int) 0 0 X (fun _ => True) (cI g_X7_codeOf) := by
  intro as w Kf hv h
  obtain ⟨q, h1, h2⟩ := oC_inv h
  unfold g_X7_codeOf at h1
  obtain ⟨x0, r, rfl, h1_1⟩ := pI_inv h1
  obtain ⟨x1, r, rfl, h1_2⟩ := pI_inv h1_1
  obtain ⟨rfl, h3⟩ := pE_inv h1_2
  exact ⟨_, _, trivial, h2, trivial, zmeth (cM := cm_X7_codeOf _) (bl := bl_X7_codeOf) (ret := rI) hI (by decide) fl_X7 ll_X7 (lf_X7_codeOf _) bk_X7_codeOf (Nat.le_of_ble_eq_true rfl) hv (fun hF => zml_nil) (fun hF hr hk => zrt_I hF hr hk) h3⟩
def bl_X2_append : ZBl := [(0, none, [(.aload_n 0, 1, 0, []), (.getfield 15, 3, 0, []), (.iload_n 1, 1, 0, []), (.iaload, 1, 0, []), (.bipush 6, 2, 0, []), (.if_icmp .ge 30, 3, 38, [])]), (11, none, [(.aload_n 0, 1, 0, []), (.getfield 9, 3, 0, []), (.iload_n 1, 1, 0, []), (.bipush 6, 2, 0, []), (.imul, 1, 0, []), (.aload_n 0, 1, 0, []), (.getfield 15, 3, 0, []), (.iload_n 1, 1, 0, []), (.iaload, 1, 0, []), (.iadd, 1, 0, []), (.iload_n 2, 1, 0, []), (.iastore, 1, 0, []), (.aload_n 0, 1, 0, []), (.getfield 15, 3, 0, []), (.iload_n 1, 1, 0, []), (.dup2, 1, 0, []), (.iaload, 1, 0, []), (.iconst 1, 1, 0, []), (.iadd, 1, 0, []), (.iastore, 1, 0, [])]), (38, none, [(.return_, 1, 0, [])])]
set_option maxRecDepth 20000 in
theorem bk_X2_append : zdb cX2_append 3 bl_X2_append = true := by decide +kernel
noncomputable def cm_X2_append (ρ : Type) : List (Nat × Nat × ZCall ρ) := []
theorem lf_X2_append (ρ : Type) : LfM (cm_X2_append ρ) := lfm_of lfm_n
noncomputable def x_X2_append : ZJ Wd := zev cF_X2 cL_X2 bl_X2_append (cm_X2_append Wd) rV
noncomputable def f_X2_append (k0 : Nat) (x1 : Int32) (x2 : Int32) (w : Wd) : Option Wd := x_X2_append 0 [] [some (zr 2 k0), some (zi x1), some (zi x2)] w
noncomputable def g_X2_append (r : List ZV) (w : Wd) : Option Wd := pR r fun tk0 k0 r => zif (Nat.beq tk0 2) (pI r fun x1 r => pI r fun x2 r => pE r (f_X2_append k0 x1 x2 w))
set_option maxRecDepth 20000 in
theorem e_X2_append (k0 : Nat) (x1 : Int32) (x2 : Int32) (w : Wd) : f_X2_append k0 x1 x2 w = (chk x1 4 (if (Int32.ofInt 6) ≤ (w.1 12 k0 x1.toNatClampNeg) then (some w) else (chk x1 4 (chk ((x1 * (Int32.ofInt 6)) + (w.1 12 k0 x1.toNatClampNeg)) 24 (chk x1 4 (chk x1 4 (some (wI (wI w 11 k0 ((x1 * (Int32.ofInt 6)) + (w.1 12 k0 x1.toNatClampNeg)).toNatClampNeg x2) 12 k0 x1.toNatClampNeg (((wI w 11 k0 ((x1 * (Int32.ofInt 6)) + (w.1 12 k0 x1.toNatClampNeg)).toNatClampNeg x2).1 12 k0 x1.toNatClampNeg) + (Int32.ofInt 1)))))))))) := (zev_eq (lf_X2_append _) _ _ _ _).trans rfl
theorem k_X2_append : zLkV yX2_append cX2_append 3 none 2 2 := ⟨(tw2 (i := 23) rfl), (twp (n := 2) (List.mem_append_left _ (List.mem_of_getElem? (i := 2) rfl))), (tw1 (i := 4) rfl), (tw2 (i := 24) rfl), ⟨_, _, rfl⟩, rfl, by decide, by decide, by decide +kernel⟩
set_option maxHeartbeats 4000000 in
set_option maxRecDepth 20000 in
theorem a_X2_append {l : Launch} {D : va_G} {ad : Nat → Nat → Nat} {cA : Nat → ClassId} (hI : zInj ad) {ρ : Type} (X : ρ) : zAns l D ad cA yX2_append cX2_append 3 none 0 0 X (fun as => ∃ i as', as = zr 2 i :: as') (cV g_X2_append) := by
  intro as w Kf hv h
  obtain ⟨q, h1, h2⟩ := oC_inv h
  unfold g_X2_append at h1
  obtain ⟨tk0, k0, r, rfl, h1_1⟩ := pR_inv h1
  obtain ⟨bk0, h1_1z⟩ := zif_inv h1_1
  cases Nat.eq_of_beq_eq_true bk0
  obtain ⟨x1, r, rfl, h1_2⟩ := pI_inv h1_1z
  obtain ⟨x2, r, rfl, h1_3⟩ := pI_inv h1_2
  obtain ⟨rfl, h3⟩ := pE_inv h1_3
  exact ⟨_, _, ⟨_, _, rfl⟩, h2, trivial, zmeth (cM := cm_X2_append _) (bl := bl_X2_append) (ret := rV) hI (by decide) fl_X2 ll_X2 (lf_X2_append _) bk_X2_append (Nat.le_of_ble_eq_true rfl) hv (fun hF => zml_nil) (fun hF hr hk => zrt_V hF hr hk) h3⟩
def bl_X2_copyWithoutLock : ZBl := [(0, none, [(.iconst 0, 1, 0, []), (.istore_n 3, 1, 0, [])]), (2, some [true, true, true, true, false, false], [(.iload_n 3, 1, 0, []), (.iconst 4, 1, 0, []), (.if_icmp .ge 71, 3, 75, [])]), (7, none, [(.aload_n 0, 1, 0, []), (.getfield 15, 3, 0, []), (.iload_n 3, 1, 0, []), (.iconst 0, 1, 0, []), (.iastore, 1, 0, []), (.iconst 0, 1, 0, []), (.istore 4, 2, 0, [])]), (17, some [true, true, true, true, true, false], [(.iload 4, 2, 0, []), (.aload_n 1, 1, 0, []), (.iload_n 3, 1, 0, []), (.invokevirtual 28, 3, 0, []), (.if_icmp .ge 45, 3, 69, [])]), (27, none, [(.aload_n 1, 1, 0, []), (.iload_n 3, 1, 0, []), (.iload 4, 2, 0, []), (.invokevirtual 32, 3, 0, []), (.istore 5, 2, 0, []), (.iload 5, 2, 0, []), (.iconst 2, 1, 0, []), (.iload_n 2, 1, 0, []), (.invokestatic 36, 3, 0, []), (.if_icmp .eq 20, 3, 63, [])]), (46, none, [(.iload 5, 2, 0, []), (.iconst 3, 1, 0, []), (.iload_n 2, 1, 0, []), (.invokestatic 36, 3, 0, []), (.if_icmp .eq 10, 3, 63, [])]), (56, none, [(.aload_n 0, 1, 0, []), (.iload_n 3, 1, 0, []), (.iload 5, 2, 0, []), (.invokevirtual 39, 3, 0, [])]), (63, none, [(.iinc 4 1, 3, 0, []), (.goto (-49), 3, 17, [])]), (69, none, [(.iinc 3 1, 3, 0, []), (.goto (-70), 3, 2, [])]), (75, none, [(.return_, 1, 0, [])])]
set_option maxRecDepth 20000 in
theorem bk_X2_copyWithoutLock : zdb cX2_copyWithoutLock 6 bl_X2_copyWithoutLock = true := by decide +kernel
noncomputable def cm_X2_copyWithoutLock (ρ : Type) : List (Nat × Nat × ZCall ρ) := [(56, 2, cI g_X2_lengthOf), (64, 3, cI g_X2_stepOf), (73, 2, cI g_X7_codeOf), (78, 3, cV g_X2_append)]
theorem lf_X2_copyWithoutLock (ρ : Type) : LfM (cm_X2_copyWithoutLock ρ) := lfm_of (lfm_cons (lfc_I g_X2_lengthOf) (lfm_cons (lfc_I g_X2_stepOf) (lfm_cons (lfc_I g_X7_codeOf) (lfm_cons (lfc_V g_X2_append) lfm_n))))
noncomputable def x_X2_copyWithoutLock : ZJ Wd := zev cF_X2 cL_X2 bl_X2_copyWithoutLock (cm_X2_copyWithoutLock Wd) rV
noncomputable def f_X2_copyWithoutLock (k0 : Nat) (k1 : Nat) (x2 : Int32) (w : Wd) : Option Wd := x_X2_copyWithoutLock 0 [] [some (zr 2 k0), some (zr 2 k1), some (zi x2), none, none, none] w
noncomputable def g_X2_copyWithoutLock (r : List ZV) (w : Wd) : Option Wd := pR r fun tk0 k0 r => zif (Nat.beq tk0 2) (pR r fun tk1 k1 r => zif (Nat.beq tk1 2) (pI r fun x2 r => pE r (f_X2_copyWithoutLock k0 k1 x2 w)))
set_option maxRecDepth 20000 in
theorem e_X2_copyWithoutLock (k0 : Nat) (k1 : Nat) (x2 : Int32) (w : Wd) : f_X2_copyWithoutLock k0 k1 x2 w = (x_X2_copyWithoutLock 2 [] [some (zr 2 k0), some (zr 2 k1), some (zi x2), some (zi (Int32.ofInt 0)), none, none] w) := (zev_eq (lf_X2_copyWithoutLock _) _ _ _ _).trans rfl
set_option maxRecDepth 20000 in
theorem e_X2_copyWithoutLock_2 (k0 : Nat) (k1 : Nat) (x2 : Int32) (x3 : Int32) (w : Wd) : x_X2_copyWithoutLock 2 [] [some (zr 2 k0), some (zr 2 k1), some (zi x2), some (zi x3), none, none] w = (if (Int32.ofInt 4) ≤ x3 then (some w) else (chk x3 4 (x_X2_copyWithoutLock 17 [] [some (zr 2 k0), some (zr 2 k1), some (zi x2), some (zi x3), some (zi (Int32.ofInt 0)), none] (wI w 12 k0 x3.toNatClampNeg (Int32.ofInt 0))))) := (zev_eq (lf_X2_copyWithoutLock _) _ _ _ _).trans rfl
set_option maxRecDepth 20000 in
theorem e_X2_copyWithoutLock_17 (k0 : Nat) (k1 : Nat) (x2 : Int32) (x3 : Int32) (x4 : Int32) (w : Wd) : x_X2_copyWithoutLock 17 [] [some (zr 2 k0), some (zr 2 k1), some (zi x2), some (zi x3), some (zi x4), none] w = (oC (f_X2_lengthOf k1 x3 w) fun q1 => (if q1.1 ≤ x4 then (x_X2_copyWithoutLock 2 [] [some (zr 2 k0), some (zr 2 k1), some (zi x2), some (zi (x3 + (Int32.ofInt 1))), none, none] q1.2) else (oC (f_X2_stepOf k1 x3 x4 q1.2) fun q2 => (oC (f_X7_codeOf (Int32.ofInt 2) x2 q2.2) fun q3 => (if q2.1 = q3.1 then (x_X2_copyWithoutLock 17 [] [some (zr 2 k0), some (zr 2 k1), some (zi x2), some (zi x3), some (zi (x4 + (Int32.ofInt 1))), none] q3.2) else (oC (f_X7_codeOf (Int32.ofInt 3) x2 q3.2) fun q4 => (if q2.1 = q4.1 then (x_X2_copyWithoutLock 17 [] [some (zr 2 k0), some (zr 2 k1), some (zi x2), some (zi x3), some (zi (x4 + (Int32.ofInt 1))), none] q4.2) else (oC (f_X2_append k0 x3 q2.1 q4.2) fun q5 => (x_X2_copyWithoutLock 17 [] [some (zr 2 k0), some (zr 2 k1), some (zi x2), some (zi x3), some (zi (x4 + (Int32.ofInt 1))), none] q5))))))))) := (zev_eq (lf_X2_copyWithoutLock _) _ _ _ _).trans rfl
theorem k_X2_copyWithoutLock : zLkV yX2_copyWithoutLock cX2_copyWithoutLock 6 none 2 2 := ⟨(tw3 (i := 190) rfl), (tw3 (i := 191) rfl), (tw1 (i := 4) rfl), (tw3 (i := 192) rfl), ⟨_, _, rfl⟩, rfl, by decide, by decide, by decide +kernel⟩
set_option maxHeartbeats 4000000 in
set_option maxRecDepth 20000 in
theorem a_X2_copyWithoutLock {l : Launch} {D : va_G} {ad : Nat → Nat → Nat} {cA : Nat → ClassId} (hI : zInj ad) {ρ : Type} (X : ρ) : zAns l D ad cA yX2_copyWithoutLock cX2_copyWithoutLock 6 none 2 41 X (fun as => ∃ i as', as = zr 2 i :: as') (cV g_X2_copyWithoutLock) := by
  intro as w Kf hv h
  obtain ⟨q, h1, h2⟩ := oC_inv h
  unfold g_X2_copyWithoutLock at h1
  obtain ⟨tk0, k0, r, rfl, h1_1⟩ := pR_inv h1
  obtain ⟨bk0, h1_1z⟩ := zif_inv h1_1
  cases Nat.eq_of_beq_eq_true bk0
  obtain ⟨tk1, k1, r, rfl, h1_2⟩ := pR_inv h1_1z
  obtain ⟨bk1, h1_2z⟩ := zif_inv h1_2
  cases Nat.eq_of_beq_eq_true bk1
  obtain ⟨x2, r, rfl, h1_3⟩ := pI_inv h1_2z
  obtain ⟨rfl, h3⟩ := pE_inv h1_3
  exact ⟨_, _, ⟨_, _, rfl⟩, h2, trivial, zmeth (cM := cm_X2_copyWithoutLock _) (bl := bl_X2_copyWithoutLock) (ret := rV) hI (by decide) fl_X2 ll_X2 (lf_X2_copyWithoutLock _) bk_X2_copyWithoutLock (Nat.le_of_ble_eq_true rfl) hv (fun hF => (zml_cons (zcv hF ⟨Nat.le_refl _, Nat.le_refl _⟩ rfl (tw3 (i := 193) rfl) k_X2_lengthOf ⟨by decide, by decide⟩ (a_X2_lengthOf hI _)) (zml_cons (zcv hF ⟨Nat.le_refl _, Nat.le_refl _⟩ rfl (tw2 (i := 29) rfl) k_X2_stepOf ⟨by decide, by decide⟩ (a_X2_stepOf hI _)) (zml_cons (zcn hF ⟨Nat.le_refl _, Nat.le_refl _⟩ rfl (tw2 (i := 18) rfl) k_X7_codeOf ⟨by decide, by decide⟩ (a_X7_codeOf hI _)) (zml_cons (zcv hF ⟨Nat.le_refl _, Nat.le_refl _⟩ rfl (tw2 (i := 21) rfl) k_X2_append ⟨by decide, by decide⟩ (a_X2_append hI _)) zml_nil))))) (fun hF hr hk => zrt_V hF hr hk) h3⟩
def bl_X2_readProgram : ZBl := [(0, none, [(.aload_n 0, 1, 0, []), (.getfield 15, 3, 0, []), (.iload_n 1, 1, 0, []), (.iconst 0, 1, 0, []), (.iastore, 1, 0, []), (.iconst 0, 1, 0, []), (.istore_n 3, 1, 0, [])]), (9, some [true, true, true, true], [(.iload_n 3, 1, 0, []), (.iconst 1, 1, 0, []), (.iadd, 1, 0, []), (.aload_n 2, 1, 0, []), (.invokevirtual 43, 3, 0, []), (.if_icmp .ge 29, 3, 45, [])]), (19, none, [(.aload_n 0, 1, 0, []), (.iload_n 1, 1, 0, []), (.aload_n 2, 1, 0, []), (.iload_n 3, 1, 0, []), (.invokevirtual 49, 3, 0, []), (.aload_n 2, 1, 0, []), (.iload_n 3, 1, 0, []), (.iconst 1, 1, 0, []), (.iadd, 1, 0, []), (.invokevirtual 52, 3, 0, []), (.invokestatic 36, 3, 0, []), (.invokevirtual 39, 3, 0, []), (.iinc 3 2, 3, 0, []), (.goto (-33), 3, 9, [])]), (45, none, [(.return_, 1, 0, [])])]
set_option maxRecDepth 20000 in
theorem bk_X2_readProgram : zdb cX2_readProgram 4 bl_X2_readProgram = true := by decide +kernel
noncomputable def cm_X2_readProgram (ρ : Type) : List (Nat × Nat × ZCall ρ) := [(86, 1, cI g_X1_length), (98, 2, cI g_X1_kindAt), (104, 2, cI g_X1_digitAt), (73, 2, cI g_X7_codeOf), (78, 3, cV g_X2_append)]
theorem lf_X2_readProgram (ρ : Type) : LfM (cm_X2_readProgram ρ) := lfm_of (lfm_cons (lfc_I g_X1_length) (lfm_cons (lfc_I g_X1_kindAt) (lfm_cons (lfc_I g_X1_digitAt) (lfm_cons (lfc_I g_X7_codeOf) (lfm_cons (lfc_V g_X2_append) lfm_n)))))
noncomputable def x_X2_readProgram : ZJ Wd := zev cF_X2 cL_X2 bl_X2_readProgram (cm_X2_readProgram Wd) rV
noncomputable def f_X2_readProgram (k0 : Nat) (x1 : Int32) (k2 : Nat) (w : Wd) : Option Wd := x_X2_readProgram 0 [] [some (zr 2 k0), some (zi x1), some (zr 1 k2), none] w
noncomputable def g_X2_readProgram (r : List ZV) (w : Wd) : Option Wd := pR r fun tk0 k0 r => zif (Nat.beq tk0 2) (pI r fun x1 r => pR r fun tk2 k2 r => zif (Nat.beq tk2 1) (pE r (f_X2_readProgram k0 x1 k2 w)))
set_option maxRecDepth 20000 in
theorem e_X2_readProgram (k0 : Nat) (x1 : Int32) (k2 : Nat) (w : Wd) : f_X2_readProgram k0 x1 k2 w = (chk x1 4 (x_X2_readProgram 9 [] [some (zr 2 k0), some (zi x1), some (zr 1 k2), some (zi (Int32.ofInt 0))] (wI w 12 k0 x1.toNatClampNeg (Int32.ofInt 0)))) := (zev_eq (lf_X2_readProgram _) _ _ _ _).trans rfl
set_option maxRecDepth 20000 in
theorem e_X2_readProgram_9 (k0 : Nat) (x1 : Int32) (k2 : Nat) (x3 : Int32) (w : Wd) : x_X2_readProgram 9 [] [some (zr 2 k0), some (zi x1), some (zr 1 k2), some (zi x3)] w = (oC (f_X1_length k2 w) fun q1 => (if q1.1 ≤ (x3 + (Int32.ofInt 1)) then (some q1.2) else (oC (f_X1_kindAt k2 x3 q1.2) fun q2 => (oC (f_X1_digitAt k2 (x3 + (Int32.ofInt 1)) q2.2) fun q3 => (oC (f_X7_codeOf q2.1 q3.1 q3.2) fun q4 => (oC (f_X2_append k0 x1 q4.1 q4.2) fun q5 => (x_X2_readProgram 9 [] [some (zr 2 k0), some (zi x1), some (zr 1 k2), some (zi (x3 + (Int32.ofInt 2)))] q5))))))) := (zev_eq (lf_X2_readProgram _) _ _ _ _).trans rfl
theorem k_X2_readProgram : zLkV yX2_readProgram cX2_readProgram 4 none 2 2 := ⟨(tw2 (i := 6) rfl), (tw2 (i := 7) rfl), (tw1 (i := 4) rfl), (tw2 (i := 8) rfl), ⟨_, _, rfl⟩, rfl, by decide, by decide, by decide +kernel⟩
set_option maxHeartbeats 4000000 in
set_option maxRecDepth 20000 in
theorem a_X2_readProgram {l : Launch} {D : va_G} {ad : Nat → Nat → Nat} {cA : Nat → ClassId} (hI : zInj ad) {ρ : Type} (X : ρ) : zAns l D ad cA yX2_readProgram cX2_readProgram 4 none 2 42 X (fun as => ∃ i as', as = zr 2 i :: as') (cV g_X2_readProgram) := by
  intro as w Kf hv h
  obtain ⟨q, h1, h2⟩ := oC_inv h
  unfold g_X2_readProgram at h1
  obtain ⟨tk0, k0, r, rfl, h1_1⟩ := pR_inv h1
  obtain ⟨bk0, h1_1z⟩ := zif_inv h1_1
  cases Nat.eq_of_beq_eq_true bk0
  obtain ⟨x1, r, rfl, h1_2⟩ := pI_inv h1_1z
  obtain ⟨tk2, k2, r, rfl, h1_3⟩ := pR_inv h1_2
  obtain ⟨bk2, h1_3z⟩ := zif_inv h1_3
  cases Nat.eq_of_beq_eq_true bk2
  obtain ⟨rfl, h3⟩ := pE_inv h1_3z
  exact ⟨_, _, ⟨_, _, rfl⟩, h2, trivial, zmeth (cM := cm_X2_readProgram _) (bl := bl_X2_readProgram) (ret := rV) hI (by decide) fl_X2 ll_X2 (lf_X2_readProgram _) bk_X2_readProgram (Nat.le_of_ble_eq_true rfl) hv (fun hF => (zml_cons (zcv hF ⟨Nat.le_refl _, Nat.le_refl _⟩ rfl (tw2 (i := 9) rfl) k_X1_length ⟨by decide, by decide⟩ (a_X1_length hI _)) (zml_cons (zcv hF ⟨Nat.le_refl _, Nat.le_refl _⟩ rfl (tw2 (i := 13) rfl) k_X1_kindAt ⟨by decide, by decide⟩ (a_X1_kindAt hI _)) (zml_cons (zcv hF ⟨Nat.le_refl _, Nat.le_refl _⟩ rfl (tw2 (i := 14) rfl) k_X1_digitAt ⟨by decide, by decide⟩ (a_X1_digitAt hI _)) (zml_cons (zcn hF ⟨Nat.le_refl _, Nat.le_refl _⟩ rfl (tw2 (i := 18) rfl) k_X7_codeOf ⟨by decide, by decide⟩ (a_X7_codeOf hI _)) (zml_cons (zcv hF ⟨Nat.le_refl _, Nat.le_refl _⟩ rfl (tw2 (i := 21) rfl) k_X2_append ⟨by decide, by decide⟩ (a_X2_append hI _)) zml_nil)))))) (fun hF hr hk => zrt_V hF hr hk) h3⟩
def bl_X2_swapWithNext : ZBl := [(0, none, [(.aload_n 0, 1, 0, []), (.iload_n 1, 1, 0, []), (.iload_n 2, 1, 0, []), (.invokevirtual 32, 3, 0, []), (.iconst (-1), 1, 0, []), (.if_icmp .eq 15, 3, 22, [])]), (10, none, [(.aload_n 0, 1, 0, []), (.iload_n 1, 1, 0, []), (.iload_n 2, 1, 0, []), (.iconst 1, 1, 0, []), (.iadd, 1, 0, []), (.invokevirtual 32, 3, 0, []), (.iconst (-1), 1, 0, []), (.if_icmp .ne 4, 3, 23, [])]), (22, none, [(.return_, 1, 0, [])]), (23, none, [(.iload_n 1, 1, 0, []), (.bipush 6, 2, 0, []), (.imul, 1, 0, []), (.iload_n 2, 1, 0, []), (.iadd, 1, 0, []), (.istore_n 3, 1, 0, []), (.aload_n 0, 1, 0, []), (.getfield 9, 3, 0, []), (.iload_n 3, 1, 0, []), (.iaload, 1, 0, []), (.istore 4, 2, 0, []), (.aload_n 0, 1, 0, []), (.getfield 9, 3, 0, []), (.iload_n 3, 1, 0, []), (.aload_n 0, 1, 0, []), (.getfield 9, 3, 0, []), (.iload_n 3, 1, 0, []), (.iconst 1, 1, 0, []), (.iadd, 1, 0, []), (.iaload, 1, 0, []), (.iastore, 1, 0, []), (.aload_n 0, 1, 0, []), (.getfield 9, 3, 0, []), (.iload_n 3, 1, 0, []), (.iconst 1, 1, 0, []), (.iadd, 1, 0, []), (.iload 4, 2, 0, []), (.iastore, 1, 0, []), (.return_, 1, 0, [])])]
set_option maxRecDepth 20000 in
theorem bk_X2_swapWithNext : zdb cX2_swapWithNext 5 bl_X2_swapWithNext = true := by decide +kernel
noncomputable def cm_X2_swapWithNext (ρ : Type) : List (Nat × Nat × ZCall ρ) := [(64, 3, cI g_X2_stepOf)]
theorem lf_X2_swapWithNext (ρ : Type) : LfM (cm_X2_swapWithNext ρ) := lfm_of (lfm_cons (lfc_I g_X2_stepOf) lfm_n)
noncomputable def x_X2_swapWithNext : ZJ Wd := zev cF_X2 cL_X2 bl_X2_swapWithNext (cm_X2_swapWithNext Wd) rV
noncomputable def f_X2_swapWithNext (k0 : Nat) (x1 : Int32) (x2 : Int32) (w : Wd) : Option Wd := x_X2_swapWithNext 0 [] [some (zr 2 k0), some (zi x1), some (zi x2), none, none] w
noncomputable def g_X2_swapWithNext (r : List ZV) (w : Wd) : Option Wd := pR r fun tk0 k0 r => zif (Nat.beq tk0 2) (pI r fun x1 r => pI r fun x2 r => pE r (f_X2_swapWithNext k0 x1 x2 w))
set_option maxRecDepth 20000 in
theorem e_X2_swapWithNext (k0 : Nat) (x1 : Int32) (x2 : Int32) (w : Wd) : f_X2_swapWithNext k0 x1 x2 w = (oC (f_X2_stepOf k0 x1 x2 w) fun q1 => (if q1.1 = (Int32.ofInt (-1)) then (some q1.2) else (oC (f_X2_stepOf k0 x1 (x2 + (Int32.ofInt 1)) q1.2) fun q2 => (if q2.1 = (Int32.ofInt (-1)) then (some q2.2) else (chk ((x1 * (Int32.ofInt 6)) + x2) 24 (chk (((x1 * (Int32.ofInt 6)) + x2) + (Int32.ofInt 1)) 24 (chk ((x1 * (Int32.ofInt 6)) + x2) 24 (chk (((x1 * (Int32.ofInt 6)) + x2) + (Int32.ofInt 1)) 24 (some (wI (wI q2.2 11 k0 ((x1 * (Int32.ofInt 6)) + x2).toNatClampNeg (q2.2.1 11 k0 (((x1 * (Int32.ofInt 6)) + x2) + (Int32.ofInt 1)).toNatClampNeg)) 11 k0 (((x1 * (Int32.ofInt 6)) + x2) + (Int32.ofInt 1)).toNatClampNeg (q2.2.1 11 k0 ((x1 * (Int32.ofInt 6)) + x2).toNatClampNeg))))))))))) := (zev_eq (lf_X2_swapWithNext _) _ _ _ _).trans rfl
theorem k_X2_swapWithNext : zLkV yX2_swapWithNext cX2_swapWithNext 5 none 2 2 := ⟨(tw3 (i := 235) rfl), (tw3 (i := 236) rfl), (tw1 (i := 4) rfl), (tw3 (i := 237) rfl), ⟨_, _, rfl⟩, rfl, by decide, by decide, by decide +kernel⟩
set_option maxHeartbeats 4000000 in
set_option maxRecDepth 20000 in
theorem a_X2_swapWithNext {l : Launch} {D : va_G} {ad : Nat → Nat → Nat} {cA : Nat → ClassId} (hI : zInj ad) {ρ : Type} (X : ρ) : zAns l D ad cA yX2_swapWithNext cX2_swapWithNext 5 none 1 22 X (fun as => ∃ i as', as = zr 2 i :: as') (cV g_X2_swapWithNext) := by
  intro as w Kf hv h
  obtain ⟨q, h1, h2⟩ := oC_inv h
  unfold g_X2_swapWithNext at h1
  obtain ⟨tk0, k0, r, rfl, h1_1⟩ := pR_inv h1
  obtain ⟨bk0, h1_1z⟩ := zif_inv h1_1
  cases Nat.eq_of_beq_eq_true bk0
  obtain ⟨x1, r, rfl, h1_2⟩ := pI_inv h1_1z
  obtain ⟨x2, r, rfl, h1_3⟩ := pI_inv h1_2
  obtain ⟨rfl, h3⟩ := pE_inv h1_3
  exact ⟨_, _, ⟨_, _, rfl⟩, h2, trivial, zmeth (cM := cm_X2_swapWithNext _) (bl := bl_X2_swapWithNext) (ret := rV) hI (by decide) fl_X2 ll_X2 (lf_X2_swapWithNext _) bk_X2_swapWithNext (Nat.le_of_ble_eq_true rfl) hv (fun hF => (zml_cons (zcv hF ⟨Nat.le_refl _, Nat.le_refl _⟩ rfl (tw2 (i := 29) rfl) k_X2_stepOf ⟨by decide, by decide⟩ (a_X2_stepOf hI _)) zml_nil)) (fun hF hr hk => zrt_V hF hr hk) h3⟩
def bl_X2_sameAs : ZBl := [(0, none, [(.iconst 0, 1, 0, []), (.istore_n 2, 1, 0, [])]), (2, some [true, true, true, false], [(.iload_n 2, 1, 0, []), (.iconst 4, 1, 0, []), (.if_icmp .ge 61, 3, 65, [])]), (7, none, [(.aload_n 0, 1, 0, []), (.getfield 15, 3, 0, []), (.iload_n 2, 1, 0, []), (.iaload, 1, 0, []), (.aload_n 1, 1, 0, []), (.getfield 15, 3, 0, []), (.iload_n 2, 1, 0, []), (.iaload, 1, 0, []), (.if_icmp .eq 5, 3, 24, [])]), (22, none, [(.iconst 0, 1, 0, []), (.ireturn, 1, 0, [])]), (24, none, [(.iconst 0, 1, 0, []), (.istore_n 3, 1, 0, [])]), (26, some [true, true, true, true], [(.iload_n 3, 1, 0, []), (.aload_n 0, 1, 0, []), (.getfield 15, 3, 0, []), (.iload_n 2, 1, 0, []), (.iaload, 1, 0, []), (.if_icmp .ge 26, 3, 59, [])]), (36, none, [(.aload_n 0, 1, 0, []), (.iload_n 2, 1, 0, []), (.iload_n 3, 1, 0, []), (.invokevirtual 32, 3, 0, []), (.aload_n 1, 1, 0, []), (.iload_n 2, 1, 0, []), (.iload_n 3, 1, 0, []), (.invokevirtual 32, 3, 0, []), (.if_icmp .eq 5, 3, 53, [])]), (51, none, [(.iconst 0, 1, 0, []), (.ireturn, 1, 0, [])]), (53, none, [(.iinc 3 1, 3, 0, []), (.goto (-30), 3, 26, [])]), (59, none, [(.iinc 2 1, 3, 0, []), (.goto (-60), 3, 2, [])]), (65, none, [(.iconst 1, 1, 0, []), (.ireturn, 1, 0, [])])]
set_option maxRecDepth 20000 in
theorem bk_X2_sameAs : zdb cX2_sameAs 4 bl_X2_sameAs = true := by decide +kernel
noncomputable def cm_X2_sameAs (ρ : Type) : List (Nat × Nat × ZCall ρ) := [(64, 3, cI g_X2_stepOf)]
theorem lf_X2_sameAs (ρ : Type) : LfM (cm_X2_sameAs ρ) := lfm_of (lfm_cons (lfc_I g_X2_stepOf) lfm_n)
noncomputable def x_X2_sameAs : ZJ (Int32 × Wd) := zev cF_X2 cL_X2 bl_X2_sameAs (cm_X2_sameAs (Int32 × Wd)) rZ
noncomputable def f_X2_sameAs (k0 : Nat) (k1 : Nat) (w : Wd) : Option (Int32 × Wd) := x_X2_sameAs 0 [] [some (zr 2 k0), some (zr 2 k1), none, none] w
noncomputable def g_X2_sameAs (r : List ZV) (w : Wd) : Option (Int32 × Wd) := pR r fun tk0 k0 r => zif (Nat.beq tk0 2) (pR r fun tk1 k1 r => zif (Nat.beq tk1 2) (pE r (f_X2_sameAs k0 k1 w)))
set_option maxRecDepth 20000 in
theorem e_X2_sameAs (k0 : Nat) (k1 : Nat) (w : Wd) : f_X2_sameAs k0 k1 w = (x_X2_sameAs 2 [] [some (zr 2 k0), some (zr 2 k1), some (zi (Int32.ofInt 0)), none] w) := (zev_eq (lf_X2_sameAs _) _ _ _ _).trans rfl
set_option maxRecDepth 20000 in
theorem e_X2_sameAs_2 (k0 : Nat) (k1 : Nat) (x2 : Int32) (w : Wd) : x_X2_sameAs 2 [] [some (zr 2 k0), some (zr 2 k1), some (zi x2), none] w = (if (Int32.ofInt 4) ≤ x2 then (zb (Int32.ofInt 1) (some ((Int32.ofInt 1), w))) else (chk x2 4 (chk x2 4 (if (w.1 12 k0 x2.toNatClampNeg) = (w.1 12 k1 x2.toNatClampNeg) then (x_X2_sameAs 26 [] [some (zr 2 k0), some (zr 2 k1), some (zi x2), some (zi (Int32.ofInt 0))] w) else (zb (Int32.ofInt 0) (some ((Int32.ofInt 0), w))))))) := (zev_eq (lf_X2_sameAs _) _ _ _ _).trans rfl
set_option maxRecDepth 20000 in
theorem e_X2_sameAs_26 (k0 : Nat) (k1 : Nat) (x2 : Int32) (x3 : Int32) (w : Wd) : x_X2_sameAs 26 [] [some (zr 2 k0), some (zr 2 k1), some (zi x2), some (zi x3)] w = (chk x2 4 (if (w.1 12 k0 x2.toNatClampNeg) ≤ x3 then (x_X2_sameAs 2 [] [some (zr 2 k0), some (zr 2 k1), some (zi (x2 + (Int32.ofInt 1))), none] w) else (oC (f_X2_stepOf k0 x2 x3 w) fun q1 => (oC (f_X2_stepOf k1 x2 x3 q1.2) fun q2 => (if q1.1 = q2.1 then (x_X2_sameAs 26 [] [some (zr 2 k0), some (zr 2 k1), some (zi x2), some (zi (x3 + (Int32.ofInt 1)))] q2.2) else (zb (Int32.ofInt 0) (some ((Int32.ofInt 0), q2.2)))))))) := (zev_eq (lf_X2_sameAs _) _ _ _ _).trans rfl
theorem k_X2_sameAs : zLkV yX2_sameAs cX2_sameAs 4 (some .boolean) 2 1 := ⟨(tw2 (i := 119) rfl), (tw2 (i := 120) rfl), (tw1 (i := 4) rfl), (tw2 (i := 121) rfl), ⟨_, _, rfl⟩, rfl, by decide, by decide, by decide +kernel⟩
set_option maxHeartbeats 4000000 in
set_option maxRecDepth 20000 in
theorem a_X2_sameAs {l : Launch} {D : va_G} {ad : Nat → Nat → Nat} {cA : Nat → ClassId} (hI : zInj ad) {ρ : Type} (X : ρ) : zAns l D ad cA yX2_sameAs cX2_sameAs 4 (some .boolean) 1 22 X (fun as => ∃ i as', as = zr 2 i :: as') (cI g_X2_sameAs) := by
  intro as w Kf hv h
  obtain ⟨q, h1, h2⟩ := oC_inv h
  unfold g_X2_sameAs at h1
  obtain ⟨tk0, k0, r, rfl, h1_1⟩ := pR_inv h1
  obtain ⟨bk0, h1_1z⟩ := zif_inv h1_1
  cases Nat.eq_of_beq_eq_true bk0
  obtain ⟨tk1, k1, r, rfl, h1_2⟩ := pR_inv h1_1z
  obtain ⟨bk1, h1_2z⟩ := zif_inv h1_2
  cases Nat.eq_of_beq_eq_true bk1
  obtain ⟨rfl, h3⟩ := pE_inv h1_2z
  exact ⟨_, _, ⟨_, _, rfl⟩, h2, trivial, zmeth (cM := cm_X2_sameAs _) (bl := bl_X2_sameAs) (ret := rZ) hI (by decide) fl_X2 ll_X2 (lf_X2_sameAs _) bk_X2_sameAs (Nat.le_of_ble_eq_true rfl) hv (fun hF => (zml_cons (zcv hF ⟨Nat.le_refl _, Nat.le_refl _⟩ rfl (tw2 (i := 29) rfl) k_X2_stepOf ⟨by decide, by decide⟩ (a_X2_stepOf hI _)) zml_nil)) (fun hF hr hk => zrt_Z hF hr hk) h3⟩
def bl_X7_nameOf : ZBl := [(0, none, [(.iload_n 0, 1, 0, []), (.iconst 3, 1, 0, []), (.iand, 1, 0, []), (.ireturn, 1, 0, [])])]
set_option maxRecDepth 20000 in
theorem bk_X7_nameOf : zdb cX7_nameOf 1 bl_X7_nameOf = true := by decide +kernel
noncomputable def cm_X7_nameOf (ρ : Type) : List (Nat × Nat × ZCall ρ) := []
theorem lf_X7_nameOf (ρ : Type) : LfM (cm_X7_nameOf ρ) := lfm_of lfm_n
noncomputable def x_X7_nameOf : ZJ (Int32 × Wd) := zev cF_X7 cL_X7 bl_X7_nameOf (cm_X7_nameOf (Int32 × Wd)) rI
noncomputable def f_X7_nameOf (x0 : Int32) (w : Wd) : Option (Int32 × Wd) := x_X7_nameOf 0 [] [some (zi x0)] w
noncomputable def g_X7_nameOf (r : List ZV) (w : Wd) : Option (Int32 × Wd) := pI r fun x0 r => pE r (f_X7_nameOf x0 w)
set_option maxRecDepth 20000 in
theorem e_X7_nameOf (x0 : Int32) (w : Wd) : f_X7_nameOf x0 w = (some ((x0 &&& (Int32.ofInt 3)), w)) := (zev_eq (lf_X7_nameOf _) _ _ _ _).trans rfl
theorem k_X7_nameOf : zLkS yX7_nameOf cX7_nameOf 1 (some .int) 1 := ⟨(tw2 (i := 34) rfl), (tw1 (i := 1) rfl), (tw2 (i := 35) rfl), by decide, by decide, by decide +kernel⟩
set_option maxHeartbeats 4000000 in
set_option maxRecDepth 20000 in
theorem a_X7_nameOf {l : Launch} {D : va_G} {ad : Nat → Nat → Nat} {cA : Nat → ClassId} (hI : zInj ad) {ρ : Type} (X : ρ) : zAns l D ad cA yX7_nameOf cX7_nameOf 1 (some .int) 0 0 X (fun _ => True) (cI g_X7_nameOf) := by
  intro as w Kf hv h
  obtain ⟨q, h1, h2⟩ := oC_inv h
  unfold g_X7_nameOf at h1
  obtain ⟨x0, r, rfl, h1_1⟩ := pI_inv h1
  obtain ⟨rfl, h3⟩ := pE_inv h1_1
  exact ⟨_, _, trivial, h2, trivial, zmeth (cM := cm_X7_nameOf _) (bl := bl_X7_nameOf) (ret := rI) hI (by decide) fl_X7 ll_X7 (lf_X7_nameOf _) bk_X7_nameOf (Nat.le_of_ble_eq_true rfl) hv (fun hF => zml_nil) (fun hF hr hk => zrt_I hF hr hk) h3⟩
def bl_X7_kindOf : ZBl := [(0, none, [(.iload_n 0, 1, 0, []), (.iconst 2, 1, 0, []), (.ishr, 1, 0, []), (.ireturn, 1, 0, [])])]
set_option maxRecDepth 20000 in
theorem bk_X7_kindOf : zdb cX7_kindOf 1 bl_X7_kindOf = true := by decide +kernel
noncomputable def cm_X7_kindOf (ρ : Type) : List (Nat × Nat × ZCall ρ) := []
theorem lf_X7_kindOf (ρ : Type) : LfM (cm_X7_kindOf ρ) := lfm_of lfm_n
noncomputable def x_X7_kindOf : ZJ (Int32 × Wd) := zev cF_X7 cL_X7 bl_X7_kindOf (cm_X7_kindOf (Int32 × Wd)) rI
noncomputable def f_X7_kindOf (x0 : Int32) (w : Wd) : Option (Int32 × Wd) := x_X7_kindOf 0 [] [some (zi x0)] w
noncomputable def g_X7_kindOf (r : List ZV) (w : Wd) : Option (Int32 × Wd) := pI r fun x0 r => pE r (f_X7_kindOf x0 w)
set_option maxRecDepth 20000 in
theorem e_X7_kindOf (x0 : Int32) (w : Wd) : f_X7_kindOf x0 w = (some ((x0 >>> ((Int32.ofInt 2) &&& 31)), w)) := (zev_eq (lf_X7_kindOf _) _ _ _ _).trans rfl
theorem k_X7_kindOf : zLkS yX7_kindOf cX7_kindOf 1 (some .int) 1 := ⟨(tw2 (i := 41) rfl), (tw1 (i := 1) rfl), (tw2 (i := 42) rfl), by decide, by decide, by decide +kernel⟩
set_option maxHeartbeats 4000000 in
set_option maxRecDepth 20000 in
theorem a_X7_kindOf {l : Launch} {D : va_G} {ad : Nat → Nat → Nat} {cA : Nat → ClassId} (hI : zInj ad) {ρ : Type} (X : ρ) : zAns l D ad cA yX7_kindOf cX7_kindOf 1 (some .int) 0 0 X (fun _ => True) (cI g_X7_kindOf) := by
  intro as w Kf hv h
  obtain ⟨q, h1, h2⟩ := oC_inv h
  unfold g_X7_kindOf at h1
  obtain ⟨x0, r, rfl, h1_1⟩ := pI_inv h1
  obtain ⟨rfl, h3⟩ := pE_inv h1_1
  exact ⟨_, _, trivial, h2, trivial, zmeth (cM := cm_X7_kindOf _) (bl := bl_X7_kindOf) (ret := rI) hI (by decide) fl_X7 ll_X7 (lf_X7_kindOf _) bk_X7_kindOf (Nat.le_of_ble_eq_true rfl) hv (fun hF => zml_nil) (fun hF hr hk => zrt_I hF hr hk) h3⟩
def bl_X7_setOf : ZBl := [(0, none, [(.iconst 1, 1, 0, []), (.iload_n 0, 1, 0, []), (.ishl, 1, 0, []), (.ireturn, 1, 0, [])])]
set_option maxRecDepth 20000 in
theorem bk_X7_setOf : zdb cX7_setOf 1 bl_X7_setOf = true := by decide +kernel
noncomputable def cm_X7_setOf (ρ : Type) : List (Nat × Nat × ZCall ρ) := []
theorem lf_X7_setOf (ρ : Type) : LfM (cm_X7_setOf ρ) := lfm_of lfm_n
noncomputable def x_X7_setOf : ZJ (Int32 × Wd) := zev cF_X7 cL_X7 bl_X7_setOf (cm_X7_setOf (Int32 × Wd)) rI
noncomputable def f_X7_setOf (x0 : Int32) (w : Wd) : Option (Int32 × Wd) := x_X7_setOf 0 [] [some (zi x0)] w
noncomputable def g_X7_setOf (r : List ZV) (w : Wd) : Option (Int32 × Wd) := pI r fun x0 r => pE r (f_X7_setOf x0 w)
set_option maxRecDepth 20000 in
theorem e_X7_setOf (x0 : Int32) (w : Wd) : f_X7_setOf x0 w = (some (((Int32.ofInt 1) <<< (x0 &&& 31)), w)) := (zev_eq (lf_X7_setOf _) _ _ _ _).trans rfl
theorem k_X7_setOf : zLkS yX7_setOf cX7_setOf 1 (some .int) 1 := ⟨(tw2 (i := 44) rfl), (tw1 (i := 1) rfl), (tw2 (i := 45) rfl), by decide, by decide, by decide +kernel⟩
set_option maxHeartbeats 4000000 in
set_option maxRecDepth 20000 in
theorem a_X7_setOf {l : Launch} {D : va_G} {ad : Nat → Nat → Nat} {cA : Nat → ClassId} (hI : zInj ad) {ρ : Type} (X : ρ) : zAns l D ad cA yX7_setOf cX7_setOf 1 (some .int) 0 0 X (fun _ => True) (cI g_X7_setOf) := by
  intro as w Kf hv h
  obtain ⟨q, h1, h2⟩ := oC_inv h
  unfold g_X7_setOf at h1
  obtain ⟨x0, r, rfl, h1_1⟩ := pI_inv h1
  obtain ⟨rfl, h3⟩ := pE_inv h1_1
  exact ⟨_, _, trivial, h2, trivial, zmeth (cM := cm_X7_setOf _) (bl := bl_X7_setOf) (ret := rI) hI (by decide) fl_X7 ll_X7 (lf_X7_setOf _) bk_X7_setOf (Nat.le_of_ble_eq_true rfl) hv (fun hF => zml_nil) (fun hF hr hk => zrt_I hF hr hk) h3⟩
def bl_X2_heldAfter : ZBl := [(0, none, [(.iconst 0, 1, 0, []), (.istore_n 3, 1, 0, []), (.iconst 0, 1, 0, []), (.istore 4, 2, 0, [])]), (5, some [true, true, true, true, true, false], [(.iload 4, 2, 0, []), (.iload_n 2, 1, 0, []), (.if_icmp .ge 60, 3, 68, [])]), (11, none, [(.aload_n 0, 1, 0, []), (.iload_n 1, 1, 0, []), (.iload 4, 2, 0, []), (.invokevirtual 32, 3, 0, []), (.istore 5, 2, 0, []), (.iload 5, 2, 0, []), (.invokestatic 65, 3, 0, []), (.iconst 2, 1, 0, []), (.if_icmp .ne 14, 3, 40, [])]), (29, none, [(.iload_n 3, 1, 0, []), (.iload 5, 2, 0, []), (.invokestatic 55, 3, 0, []), (.invokestatic 68, 3, 0, []), (.ior, 1, 0, []), (.istore_n 3, 1, 0, [])]), (40, some [true, true, true, true, true, true], [(.iload 5, 2, 0, []), (.invokestatic 65, 3, 0, []), (.iconst 3, 1, 0, []), (.if_icmp .ne 16, 3, 62, [])]), (49, none, [(.iload_n 3, 1, 0, []), (.iload 5, 2, 0, []), (.invokestatic 55, 3, 0, []), (.invokestatic 68, 3, 0, []), (.iconst (-1), 1, 0, []), (.ixor, 1, 0, []), (.iand, 1, 0, []), (.istore_n 3, 1, 0, [])]), (62, none, [(.iinc 4 1, 3, 0, []), (.goto (-60), 3, 5, [])]), (68, none, [(.iload_n 3, 1, 0, []), (.ireturn, 1, 0, [])])]
set_option maxRecDepth 20000 in
theorem bk_X2_heldAfter : zdb cX2_heldAfter 6 bl_X2_heldAfter = true := by decide +kernel
noncomputable def cm_X2_heldAfter (ρ : Type) : List (Nat × Nat × ZCall ρ) := [(64, 3, cI g_X2_stepOf), (131, 1, cI g_X7_kindOf), (111, 1, cI g_X7_nameOf), (137, 1, cI g_X7_setOf)]
theorem lf_X2_heldAfter (ρ : Type) : LfM (cm_X2_heldAfter ρ) := lfm_of (lfm_cons (lfc_I g_X2_stepOf) (lfm_cons (lfc_I g_X7_kindOf) (lfm_cons (lfc_I g_X7_nameOf) (lfm_cons (lfc_I g_X7_setOf) lfm_n))))
noncomputable def x_X2_heldAfter : ZJ (Int32 × Wd) := zev cF_X2 cL_X2 bl_X2_heldAfter (cm_X2_heldAfter (Int32 × Wd)) rI
noncomputable def f_X2_heldAfter (k0 : Nat) (x1 : Int32) (x2 : Int32) (w : Wd) : Option (Int32 × Wd) := x_X2_heldAfter 0 [] [some (zr 2 k0), some (zi x1), some (zi x2), none, none, none] w
noncomputable def g_X2_heldAfter (r : List ZV) (w : Wd) : Option (Int32 × Wd) := pR r fun tk0 k0 r => zif (Nat.beq tk0 2) (pI r fun x1 r => pI r fun x2 r => pE r (f_X2_heldAfter k0 x1 x2 w))
set_option maxRecDepth 20000 in
theorem e_X2_heldAfter (k0 : Nat) (x1 : Int32) (x2 : Int32) (w : Wd) : f_X2_heldAfter k0 x1 x2 w = (x_X2_heldAfter 5 [] [some (zr 2 k0), some (zi x1), some (zi x2), some (zi (Int32.ofInt 0)), some (zi (Int32.ofInt 0)), none] w) := (zev_eq (lf_X2_heldAfter _) _ _ _ _).trans rfl
set_option maxRecDepth 20000 in
theorem e_X2_heldAfter_5 (k0 : Nat) (x1 : Int32) (x2 : Int32) (x3 : Int32) (x4 : Int32) (w : Wd) : x_X2_heldAfter 5 [] [some (zr 2 k0), some (zi x1), some (zi x2), some (zi x3), some (zi x4), none] w = (if x2 ≤ x4 then (some (x3, w)) else (oC (f_X2_stepOf k0 x1 x4 w) fun q1 => (oC (f_X7_kindOf q1.1 q1.2) fun q2 => (if q2.1 = (Int32.ofInt 2) then (oC (f_X7_nameOf q1.1 q2.2) fun q3 => (oC (f_X7_setOf q3.1 q3.2) fun q4 => (x_X2_heldAfter 40 [] [some (zr 2 k0), some (zi x1), some (zi x2), some (zi (x3 ||| q4.1)), some (zi x4), some (zi q1.1)] q4.2))) else (x_X2_heldAfter 40 [] [some (zr 2 k0), some (zi x1), some (zi x2), some (zi x3), some (zi x4), some (zi q1.1)] q2.2))))) := (zev_eq (lf_X2_heldAfter _) _ _ _ _).trans rfl
set_option maxRecDepth 20000 in
theorem e_X2_heldAfter_40 (k0 : Nat) (x1 : Int32) (x2 : Int32) (x3 : Int32) (x4 : Int32) (x5 : Int32) (w : Wd) : x_X2_heldAfter 40 [] [some (zr 2 k0), some (zi x1), some (zi x2), some (zi x3), some (zi x4), some (zi x5)] w = (oC (f_X7_kindOf x5 w) fun q1 => (if q1.1 = (Int32.ofInt 3) then (oC (f_X7_nameOf x5 q1.2) fun q2 => (oC (f_X7_setOf q2.1 q2.2) fun q3 => (x_X2_heldAfter 5 [] [some (zr 2 k0), some (zi x1), some (zi x2), some (zi (x3 &&& (q3.1 ^^^ (Int32.ofInt (-1))))), some (zi (x4 + (Int32.ofInt 1))), none] q3.2))) else (x_X2_heldAfter 5 [] [some (zr 2 k0), some (zi x1), some (zi x2), some (zi x3), some (zi (x4 + (Int32.ofInt 1))), none] q1.2))) := (zev_eq (lf_X2_heldAfter _) _ _ _ _).trans rfl
theorem k_X2_heldAfter : zLkV yX2_heldAfter cX2_heldAfter 6 (some .int) 2 2 := ⟨(tw2 (i := 37) rfl), (tw2 (i := 38) rfl), (tw1 (i := 4) rfl), (tw2 (i := 39) rfl), ⟨_, _, rfl⟩, rfl, by decide, by decide, by decide +kernel⟩
set_option maxHeartbeats 4000000 in
set_option maxRecDepth 20000 in
theorem a_X2_heldAfter {l : Launch} {D : va_G} {ad : Nat → Nat → Nat} {cA : Nat → ClassId} (hI : zInj ad) {ρ : Type} (X : ρ) : zAns l D ad cA yX2_heldAfter cX2_heldAfter 6 (some .int) 1 22 X (fun as => ∃ i as', as = zr 2 i :: as') (cI g_X2_heldAfter) := by
  intro as w Kf hv h
  obtain ⟨q, h1, h2⟩ := oC_inv h
  unfold g_X2_heldAfter at h1
  obtain ⟨tk0, k0, r, rfl, h1_1⟩ := pR_inv h1
  obtain ⟨bk0, h1_1z⟩ := zif_inv h1_1
  cases Nat.eq_of_beq_eq_true bk0
  obtain ⟨x1, r, rfl, h1_2⟩ := pI_inv h1_1z
  obtain ⟨x2, r, rfl, h1_3⟩ := pI_inv h1_2
  obtain ⟨rfl, h3⟩ := pE_inv h1_3
  exact ⟨_, _, ⟨_, _, rfl⟩, h2, trivial, zmeth (cM := cm_X2_heldAfter _) (bl := bl_X2_heldAfter) (ret := rI) hI (by decide) fl_X2 ll_X2 (lf_X2_heldAfter _) bk_X2_heldAfter (Nat.le_of_ble_eq_true rfl) hv (fun hF => (zml_cons (zcv hF ⟨Nat.le_refl _, Nat.le_refl _⟩ rfl (tw2 (i := 29) rfl) k_X2_stepOf ⟨by decide, by decide⟩ (a_X2_stepOf hI _)) (zml_cons (zcn hF ⟨Nat.le_refl _, Nat.le_refl _⟩ rfl (tw2 (i := 40) rfl) k_X7_kindOf ⟨by decide, by decide⟩ (a_X7_kindOf hI _)) (zml_cons (zcn hF ⟨Nat.le_refl _, Nat.le_refl _⟩ rfl (tw2 (i := 33) rfl) k_X7_nameOf ⟨by decide, by decide⟩ (a_X7_nameOf hI _)) (zml_cons (zcn hF ⟨Nat.le_refl _, Nat.le_refl _⟩ rfl (tw2 (i := 43) rfl) k_X7_setOf ⟨by decide, by decide⟩ (a_X7_setOf hI _)) zml_nil))))) (fun hF hr hk => zrt_I hF hr hk) h3⟩
def bl_X7_isIn : ZBl := [(0, none, [(.iload_n 1, 1, 0, []), (.iload_n 0, 1, 0, []), (.ishr, 1, 0, []), (.iconst 1, 1, 0, []), (.iand, 1, 0, []), (.ifCond .eq 7, 3, 12, [])]), (8, none, [(.iconst 1, 1, 0, []), (.goto 4, 3, 13, [])]), (12, none, [(.iconst 0, 1, 0, [])]), (13, none, [(.ireturn, 1, 0, [])])]
set_option maxRecDepth 20000 in
theorem bk_X7_isIn : zdb cX7_isIn 2 bl_X7_isIn = true := by decide +kernel
noncomputable def cm_X7_isIn (ρ : Type) : List (Nat × Nat × ZCall ρ) := []
theorem lf_X7_isIn (ρ : Type) : LfM (cm_X7_isIn ρ) := lfm_of lfm_n
noncomputable def x_X7_isIn : ZJ (Int32 × Wd) := zev cF_X7 cL_X7 bl_X7_isIn (cm_X7_isIn (Int32 × Wd)) rZ
noncomputable def f_X7_isIn (x0 : Int32) (x1 : Int32) (w : Wd) : Option (Int32 × Wd) := x_X7_isIn 0 [] [some (zi x0), some (zi x1)] w
noncomputable def g_X7_isIn (r : List ZV) (w : Wd) : Option (Int32 × Wd) := pI r fun x0 r => pI r fun x1 r => pE r (f_X7_isIn x0 x1 w)
set_option maxRecDepth 20000 in
theorem e_X7_isIn (x0 : Int32) (x1 : Int32) (w : Wd) : f_X7_isIn x0 x1 w = (if ((x1 >>> (x0 &&& 31)) &&& (Int32.ofInt 1)) = 0 then (zb (Int32.ofInt 0) (some ((Int32.ofInt 0), w))) else (zb (Int32.ofInt 1) (some ((Int32.ofInt 1), w)))) := (zev_eq (lf_X7_isIn _) _ _ _ _).trans rfl
theorem k_X7_isIn : zLkS yX7_isIn cX7_isIn 2 (some .boolean) 2 := ⟨(tw2 (i := 47) rfl), (tw1 (i := 1) rfl), (tw2 (i := 48) rfl), by decide, by decide, by decide +kernel⟩
set_option maxHeartbeats 4000000 in
set_option maxRecDepth 20000 in
theorem a_X7_isIn {l : Launch} {D : va_G} {ad : Nat → Nat → Nat} {cA : Nat → ClassId} (hI : zInj ad) {ρ : Type} (X : ρ) : zAns l D ad cA yX7_isIn cX7_isIn 2 (some .boolean) 0 0 X (fun _ => True) (cI g_X7_isIn) := by
  intro as w Kf hv h
  obtain ⟨q, h1, h2⟩ := oC_inv h
  unfold g_X7_isIn at h1
  obtain ⟨x0, r, rfl, h1_1⟩ := pI_inv h1
  obtain ⟨x1, r, rfl, h1_2⟩ := pI_inv h1_1
  obtain ⟨rfl, h3⟩ := pE_inv h1_2
  exact ⟨_, _, trivial, h2, trivial, zmeth (cM := cm_X7_isIn _) (bl := bl_X7_isIn) (ret := rZ) hI (by decide) fl_X7 ll_X7 (lf_X7_isIn _) bk_X7_isIn (Nat.le_of_ble_eq_true rfl) hv (fun hF => zml_nil) (fun hF hr hk => zrt_Z hF hr hk) h3⟩
def bl_X2_isWell : ZBl := [(0, none, [(.iconst 0, 1, 0, []), (.istore_n 2, 1, 0, [])]), (2, some [true, true, true, false, false], [(.iload_n 2, 1, 0, []), (.aload_n 0, 1, 0, []), (.getfield 15, 3, 0, []), (.iload_n 1, 1, 0, []), (.iaload, 1, 0, []), (.if_icmp .ge 59, 3, 68, [])]), (12, none, [(.aload_n 0, 1, 0, []), (.iload_n 1, 1, 0, []), (.iload_n 2, 1, 0, []), (.invokevirtual 32, 3, 0, []), (.istore_n 3, 1, 0, []), (.iload_n 3, 1, 0, []), (.invokestatic 55, 3, 0, []), (.aload_n 0, 1, 0, []), (.iload_n 1, 1, 0, []), (.iload_n 2, 1, 0, []), (.invokevirtual 58, 3, 0, []), (.invokestatic 61, 3, 0, []), (.istore 4, 2, 0, []), (.iload_n 3, 1, 0, []), (.invokestatic 65, 3, 0, []), (.iconst 2, 1, 0, []), (.if_icmp .ne 8, 3, 47, [])]), (42, none, [(.iload 4, 2, 0, []), (.ifCond .ne 16, 3, 60, [])]), (47, none, [(.iload_n 3, 1, 0, []), (.invokestatic 65, 3, 0, []), (.iconst 3, 1, 0, []), (.if_icmp .ne 10, 3, 62, [])]), (55, none, [(.iload 4, 2, 0, []), (.ifCond .ne 5, 3, 62, [])]), (60, none, [(.iconst 0, 1, 0, []), (.ireturn, 1, 0, [])]), (62, none, [(.iinc 2 1, 3, 0, []), (.goto (-63), 3, 2, [])]), (68, none, [(.iconst 1, 1, 0, []), (.ireturn, 1, 0, [])])]
set_option maxRecDepth 20000 in
theorem bk_X2_isWell : zdb cX2_isWell 5 bl_X2_isWell = true := by decide +kernel
noncomputable def cm_X2_isWell (ρ : Type) : List (Nat × Nat × ZCall ρ) := [(64, 3, cI g_X2_stepOf), (111, 1, cI g_X7_nameOf), (116, 3, cI g_X2_heldAfter), (123, 2, cI g_X7_isIn), (131, 1, cI g_X7_kindOf)]
theorem lf_X2_isWell (ρ : Type) : LfM (cm_X2_isWell ρ) := lfm_of (lfm_cons (lfc_I g_X2_stepOf) (lfm_cons (lfc_I g_X7_nameOf) (lfm_cons (lfc_I g_X2_heldAfter) (lfm_cons (lfc_I g_X7_isIn) (lfm_cons (lfc_I g_X7_kindOf) lfm_n)))))
noncomputable def x_X2_isWell : ZJ (Int32 × Wd) := zev cF_X2 cL_X2 bl_X2_isWell (cm_X2_isWell (Int32 × Wd)) rZ
noncomputable def f_X2_isWell (k0 : Nat) (x1 : Int32) (w : Wd) : Option (Int32 × Wd) := x_X2_isWell 0 [] [some (zr 2 k0), some (zi x1), none, none, none] w
noncomputable def g_X2_isWell (r : List ZV) (w : Wd) : Option (Int32 × Wd) := pR r fun tk0 k0 r => zif (Nat.beq tk0 2) (pI r fun x1 r => pE r (f_X2_isWell k0 x1 w))
set_option maxRecDepth 20000 in
theorem e_X2_isWell (k0 : Nat) (x1 : Int32) (w : Wd) : f_X2_isWell k0 x1 w = (x_X2_isWell 2 [] [some (zr 2 k0), some (zi x1), some (zi (Int32.ofInt 0)), none, none] w) := (zev_eq (lf_X2_isWell _) _ _ _ _).trans rfl
set_option maxRecDepth 20000 in
theorem e_X2_isWell_2 (k0 : Nat) (x1 : Int32) (x2 : Int32) (w : Wd) : x_X2_isWell 2 [] [some (zr 2 k0), some (zi x1), some (zi x2), none, none] w = (chk x1 4 (if (w.1 12 k0 x1.toNatClampNeg) ≤ x2 then (zb (Int32.ofInt 1) (some ((Int32.ofInt 1), w))) else (oC (f_X2_stepOf k0 x1 x2 w) fun q1 => (oC (f_X7_nameOf q1.1 q1.2) fun q2 => (oC (f_X2_heldAfter k0 x1 x2 q2.2) fun q3 => (oC (f_X7_isIn q2.1 q3.1 q3.2) fun q4 => (oC (f_X7_kindOf q1.1 q4.2) fun q5 => (if q5.1 = (Int32.ofInt 2) then (if q4.1 = 0 then (oC (f_X7_kindOf q1.1 q5.2) fun q7 => (if q7.1 = (Int32.ofInt 3) then (if q4.1 = 0 then (zb (Int32.ofInt 0) (some ((Int32.ofInt 0), q7.2))) else (x_X2_isWell 2 [] [some (zr 2 k0), some (zi x1), some (zi (x2 + (Int32.ofInt 1))), none, none] q7.2)) else (x_X2_isWell 2 [] [some (zr 2 k0), some (zi x1), some (zi (x2 + (Int32.ofInt 1))), none, none] q7.2))) else (zb (Int32.ofInt 0) (some ((Int32.ofInt 0), q5.2)))) else (oC (f_X7_kindOf q1.1 q5.2) fun q6 => (if q6.1 = (Int32.ofInt 3) then (if q4.1 = 0 then (zb (Int32.ofInt 0) (some ((Int32.ofInt 0), q6.2))) else (x_X2_isWell 2 [] [some (zr 2 k0), some (zi x1), some (zi (x2 + (Int32.ofInt 1))), none, none] q6.2)) else (x_X2_isWell 2 [] [some (zr 2 k0), some (zi x1), some (zi (x2 + (Int32.ofInt 1))), none, none] q6.2))))))))))) := (zev_eq (lf_X2_isWell _) _ _ _ _).trans rfl
theorem k_X2_isWell : zLkV yX2_isWell cX2_isWell 5 (some .boolean) 2 1 := ⟨(tw2 (i := 26) rfl), (tw2 (i := 27) rfl), (tw1 (i := 4) rfl), (tw2 (i := 28) rfl), ⟨_, _, rfl⟩, rfl, by decide, by decide, by decide +kernel⟩
set_option maxHeartbeats 4000000 in
set_option maxRecDepth 20000 in
theorem a_X2_isWell {l : Launch} {D : va_G} {ad : Nat → Nat → Nat} {cA : Nat → ClassId} (hI : zInj ad) {ρ : Type} (X : ρ) : zAns l D ad cA yX2_isWell cX2_isWell 5 (some .boolean) 2 47 X (fun as => ∃ i as', as = zr 2 i :: as') (cI g_X2_isWell) := by
  intro as w Kf hv h
  obtain ⟨q, h1, h2⟩ := oC_inv h
  unfold g_X2_isWell at h1
  obtain ⟨tk0, k0, r, rfl, h1_1⟩ := pR_inv h1
  obtain ⟨bk0, h1_1z⟩ := zif_inv h1_1
  cases Nat.eq_of_beq_eq_true bk0
  obtain ⟨x1, r, rfl, h1_2⟩ := pI_inv h1_1z
  obtain ⟨rfl, h3⟩ := pE_inv h1_2
  exact ⟨_, _, ⟨_, _, rfl⟩, h2, trivial, zmeth (cM := cm_X2_isWell _) (bl := bl_X2_isWell) (ret := rZ) hI (by decide) fl_X2 ll_X2 (lf_X2_isWell _) bk_X2_isWell (Nat.le_of_ble_eq_true rfl) hv (fun hF => (zml_cons (zcv hF ⟨Nat.le_refl _, Nat.le_refl _⟩ rfl (tw2 (i := 29) rfl) k_X2_stepOf ⟨by decide, by decide⟩ (a_X2_stepOf hI _)) (zml_cons (zcn hF ⟨Nat.le_refl _, Nat.le_refl _⟩ rfl (tw2 (i := 33) rfl) k_X7_nameOf ⟨by decide, by decide⟩ (a_X7_nameOf hI _)) (zml_cons (zcv hF ⟨Nat.le_refl _, Nat.le_refl _⟩ rfl (tw2 (i := 36) rfl) k_X2_heldAfter ⟨by decide, by decide⟩ (a_X2_heldAfter hI _)) (zml_cons (zcn hF ⟨Nat.le_refl _, Nat.le_refl _⟩ rfl (tw2 (i := 46) rfl) k_X7_isIn ⟨by decide, by decide⟩ (a_X7_isIn hI _)) (zml_cons (zcn hF ⟨Nat.le_refl _, Nat.le_refl _⟩ rfl (tw2 (i := 40) rfl) k_X7_kindOf ⟨by decide, by decide⟩ (a_X7_kindOf hI _)) zml_nil)))))) (fun hF hr hk => zrt_Z hF hr hk) h3⟩
def bl_X7_commute : ZBl := [(0, none, [(.iload_n 0, 1, 0, []), (.invokestatic 152, 3, 0, []), (.iload_n 1, 1, 0, []), (.invokestatic 152, 3, 0, []), (.if_icmp .eq 5, 3, 13, [])]), (11, none, [(.iconst 1, 1, 0, []), (.ireturn, 1, 0, [])]), (13, none, [(.iload_n 0, 1, 0, []), (.invokestatic 149, 3, 0, []), (.istore_n 2, 1, 0, []), (.iload_n 1, 1, 0, []), (.invokestatic 149, 3, 0, []), (.istore_n 3, 1, 0, []), (.iload_n 2, 1, 0, []), (.iconst 2, 1, 0, []), (.if_icmp .ge 8, 3, 33, [])]), (28, none, [(.iload_n 3, 1, 0, []), (.iconst 2, 1, 0, []), (.if_icmp .lt 19, 3, 49, [])]), (33, some [false, false, true, true], [(.iload_n 2, 1, 0, []), (.iconst 2, 1, 0, []), (.if_icmp .lt 8, 3, 43, [])]), (38, none, [(.iload_n 3, 1, 0, []), (.iconst 2, 1, 0, []), (.if_icmp .ge 7, 3, 47, [])]), (43, none, [(.iconst 1, 1, 0, []), (.goto 4, 3, 48, [])]), (47, none, [(.iconst 0, 1, 0, [])]), (48, none, [(.ireturn, 1, 0, [])]), (49, none, [(.iload_n 2, 1, 0, []), (.ifCond .ne 11, 3, 61, [])]), (53, none, [(.iload_n 3, 1, 0, []), (.ifCond .ne 7, 3, 61, [])]), (57, none, [(.iconst 1, 1, 0, []), (.goto 4, 3, 62, [])]), (61, none, [(.iconst 0, 1, 0, [])]), (62, none, [(.ireturn, 1, 0, [])])]
set_option maxRecDepth 20000 in
theorem bk_X7_commute : zdb cX7_commute 4 bl_X7_commute = true := by decide +kernel
noncomputable def cm_X7_commute (ρ : Type) : List (Nat × Nat × ZCall ρ) := [(305, 1, cI g_X7_nameOf), (299, 1, cI g_X7_kindOf)]
theorem lf_X7_commute (ρ : Type) : LfM (cm_X7_commute ρ) := lfm_of (lfm_cons (lfc_I g_X7_nameOf) (lfm_cons (lfc_I g_X7_kindOf) lfm_n))
noncomputable def x_X7_commute : ZJ (Int32 × Wd) := zev cF_X7 cL_X7 bl_X7_commute (cm_X7_commute (Int32 × Wd)) rZ
noncomputable def f_X7_commute (x0 : Int32) (x1 : Int32) (w : Wd) : Option (Int32 × Wd) := x_X7_commute 0 [] [some (zi x0), some (zi x1), none, none] w
noncomputable def g_X7_commute (r : List ZV) (w : Wd) : Option (Int32 × Wd) := pI r fun x0 r => pI r fun x1 r => pE r (f_X7_commute x0 x1 w)
set_option maxRecDepth 20000 in
theorem e_X7_commute (x0 : Int32) (x1 : Int32) (w : Wd) : f_X7_commute x0 x1 w = (oC (f_X7_nameOf x0 w) fun q1 => (oC (f_X7_nameOf x1 q1.2) fun q2 => (if q1.1 = q2.1 then (oC (f_X7_kindOf x0 q2.2) fun q3 => (oC (f_X7_kindOf x1 q3.2) fun q4 => (if (Int32.ofInt 2) ≤ q3.1 then (x_X7_commute 33 [] [none, none, some (zi q3.1), some (zi q4.1)] q4.2) else (if q4.1 < (Int32.ofInt 2) then (if q3.1 = 0 then (if q4.1 = 0 then (zb (Int32.ofInt 1) (some ((Int32.ofInt 1), q4.2))) else (zb (Int32.ofInt 0) (some ((Int32.ofInt 0), q4.2)))) else (zb (Int32.ofInt 0) (some ((Int32.ofInt 0), q4.2)))) else (x_X7_commute 33 [] [none, none, some (zi q3.1), some (zi q4.1)] q4.2))))) else (zb (Int32.ofInt 1) (some ((Int32.ofInt 1), q2.2)))))) := (zev_eq (lf_X7_commute _) _ _ _ _).trans rfl
set_option maxRecDepth 20000 in
theorem e_X7_commute_33 (x2 : Int32) (x3 : Int32) (w : Wd) : x_X7_commute 33 [] [none, none, some (zi x2), some (zi x3)] w = (if x2 < (Int32.ofInt 2) then (zb (Int32.ofInt 1) (some ((Int32.ofInt 1), w))) else (if (Int32.ofInt 2) ≤ x3 then (zb (Int32.ofInt 0) (some ((Int32.ofInt 0), w))) else (zb (Int32.ofInt 1) (some ((Int32.ofInt 1), w))))) := (zev_eq (lf_X7_commute _) _ _ _ _).trans rfl
theorem k_X7_commute : zLkS yX7_commute cX7_commute 4 (some .boolean) 2 := ⟨(tw2 (i := 106) rfl), (tw1 (i := 1) rfl), (tw2 (i := 107) rfl), by decide, by decide, by decide +kernel⟩
set_option maxHeartbeats 4000000 in
set_option maxRecDepth 20000 in
theorem a_X7_commute {l : Launch} {D : va_G} {ad : Nat → Nat → Nat} {cA : Nat → ClassId} (hI : zInj ad) {ρ : Type} (X : ρ) : zAns l D ad cA yX7_commute cX7_commute 4 (some .boolean) 1 20 X (fun _ => True) (cI g_X7_commute) := by
  intro as w Kf hv h
  obtain ⟨q, h1, h2⟩ := oC_inv h
  unfold g_X7_commute at h1
  obtain ⟨x0, r, rfl, h1_1⟩ := pI_inv h1
  obtain ⟨x1, r, rfl, h1_2⟩ := pI_inv h1_1
  obtain ⟨rfl, h3⟩ := pE_inv h1_2
  exact ⟨_, _, trivial, h2, trivial, zmeth (cM := cm_X7_commute _) (bl := bl_X7_commute) (ret := rZ) hI (by decide) fl_X7 ll_X7 (lf_X7_commute _) bk_X7_commute (Nat.le_of_ble_eq_true rfl) hv (fun hF => (zml_cons (zcs hF ⟨Nat.le_refl _, Nat.le_refl _⟩ rfl (tw2 (i := 108) rfl) k_X7_nameOf ⟨by decide, by decide⟩ (a_X7_nameOf hI _)) (zml_cons (zcs hF ⟨Nat.le_refl _, Nat.le_refl _⟩ rfl (tw2 (i := 109) rfl) k_X7_kindOf ⟨by decide, by decide⟩ (a_X7_kindOf hI _)) zml_nil))) (fun hF hr hk => zrt_Z hF hr hk) h3⟩
def bl_X2_conflictsOf : ZBl := [(0, none, [(.iconst 0, 1, 0, []), (.istore_n 3, 1, 0, []), (.aload_n 0, 1, 0, []), (.iload_n 1, 1, 0, []), (.iload_n 2, 1, 0, []), (.invokevirtual 32, 3, 0, []), (.istore 4, 2, 0, []), (.iconst 0, 1, 0, []), (.istore 5, 2, 0, [])]), (13, some [true, true, false, true, true, true, false], [(.iload 5, 2, 0, []), (.iconst 4, 1, 0, []), (.if_icmp .ge 55, 3, 71, [])]), (19, none, [(.iconst 0, 1, 0, []), (.istore 6, 2, 0, [])]), (22, some [true, true, false, true, true, true, true], [(.iload 6, 2, 0, []), (.aload_n 0, 1, 0, []), (.getfield 15, 3, 0, []), (.iload 5, 2, 0, []), (.iaload, 1, 0, []), (.if_icmp .ge 34, 3, 65, [])]), (34, none, [(.iload 5, 2, 0, []), (.iload_n 1, 1, 0, []), (.if_icmp .eq 22, 3, 59, [])]), (40, none, [(.iload 4, 2, 0, []), (.aload_n 0, 1, 0, []), (.iload 5, 2, 0, []), (.iload 6, 2, 0, []), (.invokevirtual 32, 3, 0, []), (.invokestatic 71, 3, 0, []), (.ifCond .ne 6, 3, 59, [])]), (56, none, [(.iinc 3 1, 3, 0, [])]), (59, none, [(.iinc 6 1, 3, 0, []), (.goto (-40), 3, 22, [])]), (65, none, [(.iinc 5 1, 3, 0, []), (.goto (-55), 3, 13, [])]), (71, none, [(.iload_n 3, 1, 0, []), (.ireturn, 1, 0, [])])]
set_option maxRecDepth 20000 in
theorem bk_X2_conflictsOf : zdb cX2_conflictsOf 7 bl_X2_conflictsOf = true := by decide +kernel
noncomputable def cm_X2_conflictsOf (ρ : Type) : List (Nat × Nat × ZCall ρ) := [(64, 3, cI g_X2_stepOf), (143, 2, cI g_X7_commute)]
theorem lf_X2_conflictsOf (ρ : Type) : LfM (cm_X2_conflictsOf ρ) := lfm_of (lfm_cons (lfc_I g_X2_stepOf) (lfm_cons (lfc_I g_X7_commute) lfm_n))
noncomputable def x_X2_conflictsOf : ZJ (Int32 × Wd) := zev cF_X2 cL_X2 bl_X2_conflictsOf (cm_X2_conflictsOf (Int32 × Wd)) rI
noncomputable def f_X2_conflictsOf (k0 : Nat) (x1 : Int32) (x2 : Int32) (w : Wd) : Option (Int32 × Wd) := x_X2_conflictsOf 0 [] [some (zr 2 k0), some (zi x1), some (zi x2), none, none, none, none] w
noncomputable def g_X2_conflictsOf (r : List ZV) (w : Wd) : Option (Int32 × Wd) := pR r fun tk0 k0 r => zif (Nat.beq tk0 2) (pI r fun x1 r => pI r fun x2 r => pE r (f_X2_conflictsOf k0 x1 x2 w))
set_option maxRecDepth 20000 in
theorem e_X2_conflictsOf (k0 : Nat) (x1 : Int32) (x2 : Int32) (w : Wd) : f_X2_conflictsOf k0 x1 x2 w = (oC (f_X2_stepOf k0 x1 x2 w) fun q1 => (x_X2_conflictsOf 13 [] [some (zr 2 k0), some (zi x1), none, some (zi (Int32.ofInt 0)), some (zi q1.1), some (zi (Int32.ofInt 0)), none] q1.2)) := (zev_eq (lf_X2_conflictsOf _) _ _ _ _).trans rfl
set_option maxRecDepth 20000 in
theorem e_X2_conflictsOf_13 (k0 : Nat) (x1 : Int32) (x3 : Int32) (x4 : Int32) (x5 : Int32) (w : Wd) : x_X2_conflictsOf 13 [] [some (zr 2 k0), some (zi x1), none, some (zi x3), some (zi x4), some (zi x5), none] w = (if (Int32.ofInt 4) ≤ x5 then (some (x3, w)) else (x_X2_conflictsOf 22 [] [some (zr 2 k0), some (zi x1), none, some (zi x3), some (zi x4), some (zi x5), some (zi (Int32.ofInt 0))] w)) := (zev_eq (lf_X2_conflictsOf _) _ _ _ _).trans rfl
set_option maxRecDepth 20000 in
theorem e_X2_conflictsOf_22 (k0 : Nat) (x1 : Int32) (x3 : Int32) (x4 : Int32) (x5 : Int32) (x6 : Int32) (w : Wd) : x_X2_conflictsOf 22 [] [some (zr 2 k0), some (zi x1), none, some (zi x3), some (zi x4), some (zi x5), some (zi x6)] w = (chk x5 4 (if (w.1 12 k0 x5.toNatClampNeg) ≤ x6 then (x_X2_conflictsOf 13 [] [some (zr 2 k0), some (zi x1), none, some (zi x3), some (zi x4), some (zi (x5 + (Int32.ofInt 1))), none] w) else (if x5 = x1 then (x_X2_conflictsOf 22 [] [some (zr 2 k0), some (zi x1), none, some (zi x3), some (zi x4), some (zi x5), some (zi (x6 + (Int32.ofInt 1)))] w) else (oC (f_X2_stepOf k0 x5 x6 w) fun q1 => (oC (f_X7_commute x4 q1.1 q1.2) fun q2 => (if q2.1 = 0 then (x_X2_conflictsOf 22 [] [some (zr 2 k0), some (zi x1), none, some (zi (x3 + (Int32.ofInt 1))), some (zi x4), some (zi x5), some (zi (x6 + (Int32.ofInt 1)))] q2.2) else (x_X2_conflictsOf 22 [] [some (zr 2 k0), some (zi x1), none, some (zi x3), some (zi x4), some (zi x5), some (zi (x6 + (Int32.ofInt 1)))] q2.2))))))) := (zev_eq (lf_X2_conflictsOf _) _ _ _ _).trans rfl
theorem k_X2_conflictsOf : zLkV yX2_conflictsOf cX2_conflictsOf 7 (some .int) 2 2 := ⟨(tw2 (i := 102) rfl), (tw2 (i := 103) rfl), (tw1 (i := 4) rfl), (tw2 (i := 104) rfl), ⟨_, _, rfl⟩, rfl, by decide, by decide, by decide +kernel⟩
set_option maxHeartbeats 4000000 in
set_option maxRecDepth 20000 in
theorem a_X2_conflictsOf {l : Launch} {D : va_G} {ad : Nat → Nat → Nat} {cA : Nat → ClassId} (hI : zInj ad) {ρ : Type} (X : ρ) : zAns l D ad cA yX2_conflictsOf cX2_conflictsOf 7 (some .int) 2 43 X (fun as => ∃ i as', as = zr 2 i :: as') (cI g_X2_conflictsOf) := by
  intro as w Kf hv h
  obtain ⟨q, h1, h2⟩ := oC_inv h
  unfold g_X2_conflictsOf at h1
  obtain ⟨tk0, k0, r, rfl, h1_1⟩ := pR_inv h1
  obtain ⟨bk0, h1_1z⟩ := zif_inv h1_1
  cases Nat.eq_of_beq_eq_true bk0
  obtain ⟨x1, r, rfl, h1_2⟩ := pI_inv h1_1z
  obtain ⟨x2, r, rfl, h1_3⟩ := pI_inv h1_2
  obtain ⟨rfl, h3⟩ := pE_inv h1_3
  exact ⟨_, _, ⟨_, _, rfl⟩, h2, trivial, zmeth (cM := cm_X2_conflictsOf _) (bl := bl_X2_conflictsOf) (ret := rI) hI (by decide) fl_X2 ll_X2 (lf_X2_conflictsOf _) bk_X2_conflictsOf (Nat.le_of_ble_eq_true rfl) hv (fun hF => (zml_cons (zcv hF ⟨Nat.le_refl _, Nat.le_refl _⟩ rfl (tw2 (i := 29) rfl) k_X2_stepOf ⟨by decide, by decide⟩ (a_X2_stepOf hI _)) (zml_cons (zcn hF ⟨Nat.le_refl _, Nat.le_refl _⟩ rfl (tw2 (i := 105) rfl) k_X7_commute ⟨by decide, by decide⟩ (a_X7_commute hI _)) zml_nil))) (fun hF hr hk => zrt_I hF hr hk) h3⟩
def bl_X2_conflictingPairs : ZBl := [(0, none, [(.iconst 0, 1, 0, []), (.istore_n 1, 1, 0, []), (.iconst 0, 1, 0, []), (.istore_n 2, 1, 0, [])]), (4, some [true, true, true, false], [(.iload_n 2, 1, 0, []), (.iconst 4, 1, 0, []), (.if_icmp .ge 36, 3, 42, [])]), (9, none, [(.iconst 0, 1, 0, []), (.istore_n 3, 1, 0, [])]), (11, some [true, true, true, true], [(.iload_n 3, 1, 0, []), (.aload_n 0, 1, 0, []), (.getfield 15, 3, 0, []), (.iload_n 2, 1, 0, []), (.iaload, 1, 0, []), (.if_icmp .ge 18, 3, 36, [])]), (21, none, [(.iload_n 1, 1, 0, []), (.aload_n 0, 1, 0, []), (.iload_n 2, 1, 0, []), (.iload_n 3, 1, 0, []), (.invokevirtual 74, 3, 0, []), (.iadd, 1, 0, []), (.istore_n 1, 1, 0, []), (.iinc 3 1, 3, 0, []), (.goto (-22), 3, 11, [])]), (36, none, [(.iinc 2 1, 3, 0, []), (.goto (-35), 3, 4, [])]), (42, none, [(.iload_n 1, 1, 0, []), (.iconst 2, 1, 0, []), (.idiv, 1, 0, []), (.ireturn, 1, 0, [])])]
set_option maxRecDepth 20000 in
theorem bk_X2_conflictingPairs : zdb cX2_conflictingPairs 4 bl_X2_conflictingPairs = true := by decide +kernel
noncomputable def cm_X2_conflictingPairs (ρ : Type) : List (Nat × Nat × ZCall ρ) := [(148, 3, cI g_X2_conflictsOf)]
theorem lf_X2_conflictingPairs (ρ : Type) : LfM (cm_X2_conflictingPairs ρ) := lfm_of (lfm_cons (lfc_I g_X2_conflictsOf) lfm_n)
noncomputable def x_X2_conflictingPairs : ZJ (Int32 × Wd) := zev cF_X2 cL_X2 bl_X2_conflictingPairs (cm_X2_conflictingPairs (Int32 × Wd)) rI
noncomputable def f_X2_conflictingPairs (k0 : Nat) (w : Wd) : Option (Int32 × Wd) := x_X2_conflictingPairs 0 [] [some (zr 2 k0), none, none, none] w
noncomputable def g_X2_conflictingPairs (r : List ZV) (w : Wd) : Option (Int32 × Wd) := pR r fun tk0 k0 r => zif (Nat.beq tk0 2) (pE r (f_X2_conflictingPairs k0 w))
set_option maxRecDepth 20000 in
theorem e_X2_conflictingPairs (k0 : Nat) (w : Wd) : f_X2_conflictingPairs k0 w = (x_X2_conflictingPairs 4 [] [some (zr 2 k0), some (zi (Int32.ofInt 0)), some (zi (Int32.ofInt 0)), none] w) := (zev_eq (lf_X2_conflictingPairs _) _ _ _ _).trans rfl
set_option maxRecDepth 20000 in
theorem e_X2_conflictingPairs_4 (k0 : Nat) (x1 : Int32) (x2 : Int32) (w : Wd) : x_X2_conflictingPairs 4 [] [some (zr 2 k0), some (zi x1), some (zi x2), none] w = (if (Int32.ofInt 4) ≤ x2 then (if (Int32.ofInt 2) = 0 then none else (some ((x1 / (Int32.ofInt 2)), w))) else (x_X2_conflictingPairs 11 [] [some (zr 2 k0), some (zi x1), some (zi x2), some (zi (Int32.ofInt 0))] w)) := (zev_eq (lf_X2_conflictingPairs _) _ _ _ _).trans rfl
set_option maxRecDepth 20000 in
theorem e_X2_conflictingPairs_11 (k0 : Nat) (x1 : Int32) (x2 : Int32) (x3 : Int32) (w : Wd) : x_X2_conflictingPairs 11 [] [some (zr 2 k0), some (zi x1), some (zi x2), some (zi x3)] w = (chk x2 4 (if (w.1 12 k0 x2.toNatClampNeg) ≤ x3 then (x_X2_conflictingPairs 4 [] [some (zr 2 k0), some (zi x1), some (zi (x2 + (Int32.ofInt 1))), none] w) else (oC (f_X2_conflictsOf k0 x2 x3 w) fun q1 => (x_X2_conflictingPairs 11 [] [some (zr 2 k0), some (zi (x1 + q1.1)), some (zi x2), some (zi (x3 + (Int32.ofInt 1)))] q1.2)))) := (zev_eq (lf_X2_conflictingPairs _) _ _ _ _).trans rfl
theorem k_X2_conflictingPairs : zLkV yX2_conflictingPairs cX2_conflictingPairs 4 (some .int) 2 0 := ⟨(tw2 (i := 98) rfl), (tw2 (i := 99) rfl), (tw1 (i := 4) rfl), (tw2 (i := 100) rfl), ⟨_, _, rfl⟩, rfl, by decide, by decide, by decide +kernel⟩
set_option maxHeartbeats 4000000 in
set_option maxRecDepth 20000 in
theorem a_X2_conflictingPairs {l : Launch} {D : va_G} {ad : Nat → Nat → Nat} {cA : Nat → ClassId} (hI : zInj ad) {ρ : Type} (X : ρ) : zAns l D ad cA yX2_conflictingPairs cX2_conflictingPairs 4 (some .int) 3 69 X (fun as => ∃ i as', as = zr 2 i :: as') (cI g_X2_conflictingPairs) := by
  intro as w Kf hv h
  obtain ⟨q, h1, h2⟩ := oC_inv h
  unfold g_X2_conflictingPairs at h1
  obtain ⟨tk0, k0, r, rfl, h1_1⟩ := pR_inv h1
  obtain ⟨bk0, h1_1z⟩ := zif_inv h1_1
  cases Nat.eq_of_beq_eq_true bk0
  obtain ⟨rfl, h3⟩ := pE_inv h1_1z
  exact ⟨_, _, ⟨_, _, rfl⟩, h2, trivial, zmeth (cM := cm_X2_conflictingPairs _) (bl := bl_X2_conflictingPairs) (ret := rI) hI (by decide) fl_X2 ll_X2 (lf_X2_conflictingPairs _) bk_X2_conflictingPairs (Nat.le_of_ble_eq_true rfl) hv (fun hF => (zml_cons (zcv hF ⟨Nat.le_refl _, Nat.le_refl _⟩ rfl (tw2 (i := 101) rfl) k_X2_conflictsOf ⟨by decide, by decide⟩ (a_X2_conflictsOf hI _)) zml_nil)) (fun hF hr hk => zrt_I hF hr hk) h3⟩
def bl_X3_length : ZBl := [(0, none, [(.aload_n 0, 1, 0, []), (.getfield 15, 3, 0, []), (.ireturn, 1, 0, [])])]
set_option maxRecDepth 20000 in
theorem bk_X3_length : zdb cX3_length 1 bl_X3_length = true := by decide +kernel
noncomputable def cm_X3_length (ρ : Type) : List (Nat × Nat × ZCall ρ) := []
theorem lf_X3_length (ρ : Type) : LfM (cm_X3_length ρ) := lfm_of lfm_n
noncomputable def x_X3_length : ZJ (Int32 × Wd) := zev cF_X3 cL_X3 bl_X3_length (cm_X3_length (Int32 × Wd)) rI
noncomputable def f_X3_length (k0 : Nat) (w : Wd) : Option (Int32 × Wd) := x_X3_length 0 [] [some (zr 3 k0)] w
noncomputable def g_X3_length (r : List ZV) (w : Wd) : Option (Int32 × Wd) := pR r fun tk0 k0 r => zif (Nat.beq tk0 3) (pE r (f_X3_length k0 w))
set_option maxRecDepth 20000 in
theorem e_X3_length (k0 : Nat) (w : Wd) : f_X3_length k0 w = (some ((w.1 3 k0 1), w)) := (zev_eq (lf_X3_length _) _ _ _ _).trans rfl
theorem k_X3_length : zLkV yX3_length cX3_length 1 (some .int) 3 0 := ⟨(tw2 (i := 94) rfl), (tw2 (i := 95) rfl), (tw1 (i := 5) rfl), (tw2 (i := 96) rfl), ⟨_, _, rfl⟩, rfl, by decide, by decide, by decide +kernel⟩
set_option maxHeartbeats 4000000 in
set_option maxRecDepth 20000 in
theorem a_X3_length {l : Launch} {D : va_G} {ad : Nat → Nat → Nat} {cA : Nat → ClassId} (hI : zInj ad) {ρ : Type} (X : ρ) : zAns l D ad cA yX3_length cX3_length 1 (some .int) 0 0 X (fun as => ∃ i as', as = zr 3 i :: as') (cI g_X3_length) := by
  intro as w Kf hv h
  obtain ⟨q, h1, h2⟩ := oC_inv h
  unfold g_X3_length at h1
  obtain ⟨tk0, k0, r, rfl, h1_1⟩ := pR_inv h1
  obtain ⟨bk0, h1_1z⟩ := zif_inv h1_1
  cases Nat.eq_of_beq_eq_true bk0
  obtain ⟨rfl, h3⟩ := pE_inv h1_1z
  exact ⟨_, _, ⟨_, _, rfl⟩, h2, trivial, zmeth (cM := cm_X3_length _) (bl := bl_X3_length) (ret := rI) hI (by decide) fl_X3 ll_X3 (lf_X3_length _) bk_X3_length (Nat.le_of_ble_eq_true rfl) hv (fun hF => zml_nil) (fun hF hr hk => zrt_I hF hr hk) h3⟩
def bl_X3_threadAt : ZBl := [(0, none, [(.iload_n 1, 1, 0, []), (.ifCond .lt 20, 3, 21, [])]), (4, none, [(.iload_n 1, 1, 0, []), (.aload_n 0, 1, 0, []), (.getfield 15, 3, 0, []), (.if_icmp .ge 12, 3, 21, [])]), (12, none, [(.aload_n 0, 1, 0, []), (.getfield 9, 3, 0, []), (.iload_n 1, 1, 0, []), (.iaload, 1, 0, []), (.goto 5, 3, 23, [])]), (21, none, [(.bipush (-6), 2, 0, [])]), (23, none, [(.ireturn, 1, 0, [])])]
set_option maxRecDepth 20000 in
theorem bk_X3_threadAt : zdb cX3_threadAt 2 bl_X3_threadAt = true := by decide +kernel
noncomputable def cm_X3_threadAt (ρ : Type) : List (Nat × Nat × ZCall ρ) := []
theorem lf_X3_threadAt (ρ : Type) : LfM (cm_X3_threadAt ρ) := lfm_of lfm_n
noncomputable def x_X3_threadAt : ZJ (Int32 × Wd) := zev cF_X3 cL_X3 bl_X3_threadAt (cm_X3_threadAt (Int32 × Wd)) rI
noncomputable def f_X3_threadAt (k0 : Nat) (x1 : Int32) (w : Wd) : Option (Int32 × Wd) := x_X3_threadAt 0 [] [some (zr 3 k0), some (zi x1)] w
noncomputable def g_X3_threadAt (r : List ZV) (w : Wd) : Option (Int32 × Wd) := pR r fun tk0 k0 r => zif (Nat.beq tk0 3) (pI r fun x1 r => pE r (f_X3_threadAt k0 x1 w))
set_option maxRecDepth 20000 in
theorem e_X3_threadAt (k0 : Nat) (x1 : Int32) (w : Wd) : f_X3_threadAt k0 x1 w = (if x1 < 0 then (some ((Int32.ofInt (-6)), w)) else (if (w.1 3 k0 1) ≤ x1 then (some ((Int32.ofInt (-6)), w)) else (chk x1 24 (some ((w.1 13 k0 x1.toNatClampNeg), w))))) := (zev_eq (lf_X3_threadAt _) _ _ _ _).trans rfl
theorem k_X3_threadAt : zLkV yX3_threadAt cX3_threadAt 2 (some .int) 3 1 := ⟨(tw3 (i := 16) rfl), (tw3 (i := 17) rfl), (tw1 (i := 5) rfl), (tw3 (i := 18) rfl), ⟨_, _, rfl⟩, rfl, by decide, by decide, by decide +kernel⟩
set_option maxHeartbeats 4000000 in
set_option maxRecDepth 20000 in
theorem a_X3_threadAt {l : Launch} {D : va_G} {ad : Nat → Nat → Nat} {cA : Nat → ClassId} (hI : zInj ad) {ρ : Type} (X : ρ) : zAns l D ad cA yX3_threadAt cX3_threadAt 2 (some .int) 0 0 X (fun as => ∃ i as', as = zr 3 i :: as') (cI g_X3_threadAt) := by
  intro as w Kf hv h
  obtain ⟨q, h1, h2⟩ := oC_inv h
  unfold g_X3_threadAt at h1
  obtain ⟨tk0, k0, r, rfl, h1_1⟩ := pR_inv h1
  obtain ⟨bk0, h1_1z⟩ := zif_inv h1_1
  cases Nat.eq_of_beq_eq_true bk0
  obtain ⟨x1, r, rfl, h1_2⟩ := pI_inv h1_1z
  obtain ⟨rfl, h3⟩ := pE_inv h1_2
  exact ⟨_, _, ⟨_, _, rfl⟩, h2, trivial, zmeth (cM := cm_X3_threadAt _) (bl := bl_X3_threadAt) (ret := rI) hI (by decide) fl_X3 ll_X3 (lf_X3_threadAt _) bk_X3_threadAt (Nat.le_of_ble_eq_true rfl) hv (fun hF => zml_nil) (fun hF hr hk => zrt_I hF hr hk) h3⟩
