def bl_X7_changeProgramsToDraft : ZBl := [(0, none, [(.aload_n 0, 1, 0, []), (.getfield 26, 3, 0, []), (.aload_n 0, 1, 0, []), (.getfield 19, 3, 0, []), (.invokevirtual 137, 3, 0, []), (.aload_n 0, 1, 0, []), (.getfield 19, 3, 0, []), (.getfield 97, 3, 0, []), (.aload_n 0, 1, 0, []), (.getfield 41, 3, 0, []), (.invokevirtual 100, 3, 0, []), (.aload_n 0, 1, 0, []), (.getfield 19, 3, 0, []), (.getfield 141, 3, 0, []), (.invokevirtual 148, 3, 0, []), (.return_, 1, 0, [])])]
set_option maxRecDepth 20000 in
theorem bk_X7_changeProgramsToDraft : zdb cX7_changeProgramsToDraft 1 bl_X7_changeProgramsToDraft = true := by decide +kernel
noncomputable def cm_X7_changeProgramsToDraft (ρ : Type) : List (Nat × Nat × ZCall ρ) := [(274, 2, cV g_X0_record), (200, 2, cV g_X2_copyFrom), (296, 1, cV g_X3_clear)]
theorem lf_X7_changeProgramsToDraft (ρ : Type) : LfM (cm_X7_changeProgramsToDraft ρ) := lfm_of (lfm_cons (lfc_V g_X0_record) (lfm_cons (lfc_V g_X2_copyFrom) (lfm_cons (lfc_V g_X3_clear) lfm_n)))
noncomputable def x_X7_changeProgramsToDraft : ZJ Wd := zev cF_X7 cL_X7 bl_X7_changeProgramsToDraft (cm_X7_changeProgramsToDraft Wd) rV
noncomputable def f_X7_changeProgramsToDraft (k0 : Nat) (w : Wd) : Option Wd := x_X7_changeProgramsToDraft 0 [] [some (zr 7 k0)] w
noncomputable def g_X7_changeProgramsToDraft (r : List ZV) (w : Wd) : Option Wd := pR r fun tk0 k0 r => zif (Nat.beq tk0 7) (pE r (f_X7_changeProgramsToDraft k0 w))
set_option maxRecDepth 20000 in
theorem e_X7_changeProgramsToDraft (k0 : Nat) (w : Wd) : f_X7_changeProgramsToDraft k0 w = (oC (f_X0_record 0 0 w) fun q1 => (oC (f_X2_copyFrom 0 9 q1) fun q2 => (oC (f_X3_clear 0 q2) fun q3 => (some q3)))) := (zev_eq (lf_X7_changeProgramsToDraft _) _ _ _ _).trans rfl
theorem k_X7_changeProgramsToDraft : zLkV yX7_changeProgramsToDraft cX7_changeProgramsToDraft 1 none 7 0 := ⟨(tw2 (i := 51) rfl), (twp (n := 11) (List.mem_append_left _ (List.mem_of_getElem? (i := 3) rfl))), (tw1 (i := 1) rfl), (tw2 (i := 52) rfl), ⟨_, _, rfl⟩, rfl, by decide, by decide, by decide +kernel⟩
set_option maxHeartbeats 4000000 in
set_option maxRecDepth 20000 in
theorem a_X7_changeProgramsToDraft {l : Launch} {D : va_G} {ad : Nat → Nat → Nat} {cA : Nat → ClassId} (hI : zInj ad) {ρ : Type} (X : ρ) : zAns l D ad cA yX7_changeProgramsToDraft cX7_changeProgramsToDraft 1 none 4 89 X (fun as => ∃ i as', as = zr 7 i :: as') (cV g_X7_changeProgramsToDraft) := by
  intro as w Kf hv h
  obtain ⟨q, h1, h2⟩ := oC_inv h
  unfold g_X7_changeProgramsToDraft at h1
  obtain ⟨tk0, k0, r, rfl, h1_1⟩ := pR_inv h1
  obtain ⟨bk0, h1_1z⟩ := zif_inv h1_1
  cases Nat.eq_of_beq_eq_true bk0
  obtain ⟨rfl, h3⟩ := pE_inv h1_1z
  exact ⟨_, _, ⟨_, _, rfl⟩, h2, trivial, zmeth (cM := cm_X7_changeProgramsToDraft _) (bl := bl_X7_changeProgramsToDraft) (ret := rV) hI (by decide) fl_X7 ll_X7 (lf_X7_changeProgramsToDraft _) bk_X7_changeProgramsToDraft (Nat.le_of_ble_eq_true rfl) hv (fun hF => (zml_cons (zcv hF ⟨Nat.le_refl _, Nat.le_refl _⟩ rfl (tw2 (i := 53) rfl) k_X0_record ⟨by decide, by decide⟩ (a_X0_record hI _)) (zml_cons (zcv hF ⟨Nat.le_refl _, Nat.le_refl _⟩ rfl (tw1 (i := 238) rfl) k_X2_copyFrom ⟨by decide, by decide⟩ (a_X2_copyFrom hI _)) (zml_cons (zcv hF ⟨Nat.le_refl _, Nat.le_refl _⟩ rfl (tw2 (i := 67) rfl) k_X3_clear ⟨by decide, by decide⟩ (a_X3_clear hI _)) zml_nil)))) (fun hF hr hk => zrt_V hF hr hk) h3⟩
def bl_X7_program : ZBl := [(0, none, [(.iload_n 1, 1, 0, []), (.invokestatic 93, 3, 0, []), (.ifCond .ne 5, 3, 9, [])]), (7, none, [(.iconst (-1), 1, 0, []), (.ireturn, 1, 0, [])]), (9, none, [(.aload_n 0, 1, 0, []), (.getfield 12, 3, 0, []), (.invokevirtual 87, 3, 0, []), (.bipush (-6), 2, 0, []), (.if_icmp .eq 6, 3, 24, [])]), (21, none, [(.bipush (-3), 2, 0, []), (.ireturn, 1, 0, [])]), (24, none, [(.aload_n 0, 1, 0, []), (.getfield 41, 3, 0, []), (.aload_n 0, 1, 0, []), (.getfield 19, 3, 0, []), (.getfield 97, 3, 0, []), (.invokevirtual 100, 3, 0, []), (.aload_n 0, 1, 0, []), (.getfield 41, 3, 0, []), (.iload_n 1, 1, 0, []), (.aload_n 0, 1, 0, []), (.getfield 12, 3, 0, []), (.invokevirtual 104, 3, 0, []), (.aload_n 0, 1, 0, []), (.getfield 41, 3, 0, []), (.iload_n 1, 1, 0, []), (.invokevirtual 108, 3, 0, []), (.ifCond .ne 6, 3, 64, [])]), (61, none, [(.bipush (-5), 2, 0, []), (.ireturn, 1, 0, [])]), (64, none, [(.aload_n 0, 1, 0, []), (.invokevirtual 111, 3, 0, []), (.aload_n 0, 1, 0, []), (.getfield 12, 3, 0, []), (.invokevirtual 84, 3, 0, []), (.aload_n 0, 1, 0, []), (.getfield 41, 3, 0, []), (.iload_n 1, 1, 0, []), (.invokevirtual 114, 3, 0, []), (.ireturn, 1, 0, [])])]
set_option maxRecDepth 20000 in
theorem bk_X7_program : zdb cX7_program 2 bl_X7_program = true := by decide +kernel
noncomputable def cm_X7_program (ρ : Type) : List (Nat × Nat × ZCall ρ) := [(187, 1, cI g_X7_isThread), (174, 1, cI g_X1_faultAsProgram), (200, 2, cV g_X2_copyFrom), (208, 3, cV g_X2_readProgram), (216, 2, cI g_X2_isWell), (222, 1, cV g_X7_changeProgramsToDraft), (168, 1, cV g_X1_clear), (228, 2, cI g_X2_lengthOf)]
theorem lf_X7_program (ρ : Type) : LfM (cm_X7_program ρ) := lfm_of (lfm_cons (lfc_I g_X7_isThread) (lfm_cons (lfc_I g_X1_faultAsProgram) (lfm_cons (lfc_V g_X2_copyFrom) (lfm_cons (lfc_V g_X2_readProgram) (lfm_cons (lfc_I g_X2_isWell) (lfm_cons (lfc_V g_X7_changeProgramsToDraft) (lfm_cons (lfc_V g_X1_clear) (lfm_cons (lfc_I g_X2_lengthOf) lfm_n))))))))
noncomputable def x_X7_program : ZJ (Int32 × Wd) := zev cF_X7 cL_X7 bl_X7_program (cm_X7_program (Int32 × Wd)) rI
noncomputable def f_X7_program (k0 : Nat) (x1 : Int32) (w : Wd) : Option (Int32 × Wd) := x_X7_program 0 [] [some (zr 7 k0), some (zi x1)] w
noncomputable def g_X7_program (r : List ZV) (w : Wd) : Option (Int32 × Wd) := pR r fun tk0 k0 r => zif (Nat.beq tk0 7) (pI r fun x1 r => pE r (f_X7_program k0 x1 w))
set_option maxRecDepth 20000 in
theorem e_X7_program (k0 : Nat) (x1 : Int32) (w : Wd) : f_X7_program k0 x1 w = (oC (f_X7_isThread x1 w) fun q1 => (if q1.1 = 0 then (some ((Int32.ofInt (-1)), q1.2)) else (oC (f_X1_faultAsProgram 0 q1.2) fun q2 => (if q2.1 = (Int32.ofInt (-6)) then (oC (f_X2_copyFrom 9 0 q2.2) fun q3 => (oC (f_X2_readProgram 9 x1 0 q3) fun q4 => (oC (f_X2_isWell 9 x1 q4) fun q5 => (if q5.1 = 0 then (some ((Int32.ofInt (-5)), q5.2)) else (oC (f_X7_changeProgramsToDraft k0 q5.2) fun q6 => (oC (f_X1_clear 0 q6) fun q7 => (oC (f_X2_lengthOf 9 x1 q7) fun q8 => (some (q8.1, q8.2))))))))) else (some ((Int32.ofInt (-3)), q2.2)))))) := (zev_eq (lf_X7_program _) _ _ _ _).trans rfl
theorem k_X7_program : zLkV yX7_program cX7_program 2 (some .int) 7 1 := ⟨(tw1 (i := 232) rfl), (tw1 (i := 233) rfl), (tw1 (i := 1) rfl), (tw1 (i := 234) rfl), ⟨_, _, rfl⟩, rfl, by decide, by decide, by decide +kernel⟩
set_option maxHeartbeats 4000000 in
set_option maxRecDepth 20000 in
theorem a_X7_program {l : Launch} {D : va_G} {ad : Nat → Nat → Nat} {cA : Nat → ClassId} (hI : zInj ad) {ρ : Type} (X : ρ) : zAns l D ad cA yX7_program cX7_program 2 (some .int) 5 109 X (fun as => ∃ i as', as = zr 7 i :: as') (cI g_X7_program) := by
  intro as w Kf hv h
  obtain ⟨q, h1, h2⟩ := oC_inv h
  unfold g_X7_program at h1
  obtain ⟨tk0, k0, r, rfl, h1_1⟩ := pR_inv h1
  obtain ⟨bk0, h1_1z⟩ := zif_inv h1_1
  cases Nat.eq_of_beq_eq_true bk0
  obtain ⟨x1, r, rfl, h1_2⟩ := pI_inv h1_1z
  obtain ⟨rfl, h3⟩ := pE_inv h1_2
  exact ⟨_, _, ⟨_, _, rfl⟩, h2, trivial, zmeth (cM := cm_X7_program _) (bl := bl_X7_program) (ret := rI) hI (by decide) fl_X7 ll_X7 (lf_X7_program _) bk_X7_program (Nat.le_of_ble_eq_true rfl) hv (fun hF => (zml_cons (zcs hF ⟨Nat.le_refl _, Nat.le_refl _⟩ rfl (tw1 (i := 235) rfl) k_X7_isThread ⟨by decide, by decide⟩ (a_X7_isThread hI _)) (zml_cons (zcv hF ⟨Nat.le_refl _, Nat.le_refl _⟩ rfl (tw1 (i := 211) rfl) k_X1_faultAsProgram ⟨by decide, by decide⟩ (a_X1_faultAsProgram hI _)) (zml_cons (zcv hF ⟨Nat.le_refl _, Nat.le_refl _⟩ rfl (tw1 (i := 238) rfl) k_X2_copyFrom ⟨by decide, by decide⟩ (a_X2_copyFrom hI _)) (zml_cons (zcv hF ⟨Nat.le_refl _, Nat.le_refl _⟩ rfl (tw2 (i := 5) rfl) k_X2_readProgram ⟨by decide, by decide⟩ (a_X2_readProgram hI _)) (zml_cons (zcv hF ⟨Nat.le_refl _, Nat.le_refl _⟩ rfl (tw2 (i := 25) rfl) k_X2_isWell ⟨by decide, by decide⟩ (a_X2_isWell hI _)) (zml_cons (zcv hF ⟨Nat.le_refl _, Nat.le_refl _⟩ rfl (tw2 (i := 49) rfl) k_X7_changeProgramsToDraft ⟨by decide, by decide⟩ (a_X7_changeProgramsToDraft hI _)) (zml_cons (zcv hF ⟨Nat.le_refl _, Nat.le_refl _⟩ rfl (tw2 (i := 71) rfl) k_X1_clear ⟨by decide, by decide⟩ (a_X1_clear hI _)) (zml_cons (zcv hF ⟨Nat.le_refl _, Nat.le_refl _⟩ rfl (tw2 (i := 75) rfl) k_X2_lengthOf ⟨by decide, by decide⟩ (a_X2_lengthOf hI _)) zml_nil))))))))) (fun hF hr hk => zrt_I hF hr hk) h3⟩
def bl_X7_exchange : ZBl := [(0, none, [(.iload_n 1, 1, 0, []), (.invokestatic 93, 3, 0, []), (.ifCond .eq 24, 3, 28, [])]), (7, none, [(.iload_n 2, 1, 0, []), (.ifCond .lt 20, 3, 28, [])]), (11, none, [(.iload_n 2, 1, 0, []), (.aload_n 0, 1, 0, []), (.getfield 19, 3, 0, []), (.getfield 97, 3, 0, []), (.iload_n 1, 1, 0, []), (.invokevirtual 114, 3, 0, []), (.iconst 1, 1, 0, []), (.isub, 1, 0, []), (.if_icmp .lt 5, 3, 30, [])]), (28, none, [(.iconst (-1), 1, 0, []), (.ireturn, 1, 0, [])]), (30, none, [(.aload_n 0, 1, 0, []), (.getfield 19, 3, 0, []), (.getfield 97, 3, 0, []), (.iload_n 1, 1, 0, []), (.iload_n 2, 1, 0, []), (.invokevirtual 118, 3, 0, []), (.aload_n 0, 1, 0, []), (.getfield 19, 3, 0, []), (.getfield 97, 3, 0, []), (.iload_n 1, 1, 0, []), (.iload_n 2, 1, 0, []), (.iconst 1, 1, 0, []), (.iadd, 1, 0, []), (.invokevirtual 118, 3, 0, []), (.if_icmp .eq 7, 3, 63, [])]), (59, none, [(.iconst 1, 1, 0, []), (.goto 4, 3, 64, [])]), (63, none, [(.iconst 0, 1, 0, [])]), (64, some [true, true, true, false], [(.istore_n 3, 1, 0, []), (.aload_n 0, 1, 0, []), (.getfield 41, 3, 0, []), (.aload_n 0, 1, 0, []), (.getfield 19, 3, 0, []), (.getfield 97, 3, 0, []), (.invokevirtual 100, 3, 0, []), (.aload_n 0, 1, 0, []), (.getfield 41, 3, 0, []), (.iload_n 1, 1, 0, []), (.iload_n 2, 1, 0, []), (.invokevirtual 122, 3, 0, []), (.aload_n 0, 1, 0, []), (.getfield 41, 3, 0, []), (.iload_n 1, 1, 0, []), (.invokevirtual 108, 3, 0, []), (.ifCond .ne 6, 3, 102, [])]), (99, none, [(.bipush (-5), 2, 0, []), (.ireturn, 1, 0, [])]), (102, none, [(.aload_n 0, 1, 0, []), (.invokevirtual 111, 3, 0, []), (.iload_n 3, 1, 0, []), (.ifCond .eq 7, 3, 114, [])]), (110, none, [(.iconst 1, 1, 0, []), (.goto 4, 3, 115, [])]), (114, none, [(.iconst 0, 1, 0, [])]), (115, none, [(.ireturn, 1, 0, [])])]
set_option maxRecDepth 20000 in
theorem bk_X7_exchange : zdb cX7_exchange 4 bl_X7_exchange = true := by decide +kernel
noncomputable def cm_X7_exchange (ρ : Type) : List (Nat × Nat × ZCall ρ) := [(187, 1, cI g_X7_isThread), (228, 2, cI g_X2_lengthOf), (236, 3, cI g_X2_stepOf), (200, 2, cV g_X2_copyFrom), (244, 3, cV g_X2_swapWithNext), (216, 2, cI g_X2_isWell), (222, 1, cV g_X7_changeProgramsToDraft)]
theorem lf_X7_exchange (ρ : Type) : LfM (cm_X7_exchange ρ) := lfm_of (lfm_cons (lfc_I g_X7_isThread) (lfm_cons (lfc_I g_X2_lengthOf) (lfm_cons (lfc_I g_X2_stepOf) (lfm_cons (lfc_V g_X2_copyFrom) (lfm_cons (lfc_V g_X2_swapWithNext) (lfm_cons (lfc_I g_X2_isWell) (lfm_cons (lfc_V g_X7_changeProgramsToDraft) lfm_n)))))))
noncomputable def x_X7_exchange : ZJ (Int32 × Wd) := zev cF_X7 cL_X7 bl_X7_exchange (cm_X7_exchange (Int32 × Wd)) rI
noncomputable def f_X7_exchange (k0 : Nat) (x1 : Int32) (x2 : Int32) (w : Wd) : Option (Int32 × Wd) := x_X7_exchange 0 [] [some (zr 7 k0), some (zi x1), some (zi x2), none] w
noncomputable def g_X7_exchange (r : List ZV) (w : Wd) : Option (Int32 × Wd) := pR r fun tk0 k0 r => zif (Nat.beq tk0 7) (pI r fun x1 r => pI r fun x2 r => pE r (f_X7_exchange k0 x1 x2 w))
set_option maxRecDepth 20000 in
theorem e_X7_exchange (k0 : Nat) (x1 : Int32) (x2 : Int32) (w : Wd) : f_X7_exchange k0 x1 x2 w = (oC (f_X7_isThread x1 w) fun q1 => (if q1.1 = 0 then (some ((Int32.ofInt (-1)), q1.2)) else (if x2 < 0 then (some ((Int32.ofInt (-1)), q1.2)) else (oC (f_X2_lengthOf 0 x1 q1.2) fun q2 => (if x2 < (q2.1 - (Int32.ofInt 1)) then (oC (f_X2_stepOf 0 x1 x2 q2.2) fun q3 => (oC (f_X2_stepOf 0 x1 (x2 + (Int32.ofInt 1)) q3.2) fun q4 => (if q3.1 = q4.1 then (x_X7_exchange 64 [zi (Int32.ofInt 0)] [some (zr 7 k0), some (zi x1), some (zi x2), none] q4.2) else (x_X7_exchange 64 [zi (Int32.ofInt 1)] [some (zr 7 k0), some (zi x1), some (zi x2), none] q4.2)))) else (some ((Int32.ofInt (-1)), q2.2))))))) := (zev_eq (lf_X7_exchange _) _ _ _ _).trans rfl
set_option maxRecDepth 20000 in
theorem e_X7_exchange_64 (s0 : Int32) (k0 : Nat) (x1 : Int32) (x2 : Int32) (w : Wd) : x_X7_exchange 64 [zi s0] [some (zr 7 k0), some (zi x1), some (zi x2), none] w = (oC (f_X2_copyFrom 9 0 w) fun q1 => (oC (f_X2_swapWithNext 9 x1 x2 q1) fun q2 => (oC (f_X2_isWell 9 x1 q2) fun q3 => (if q3.1 = 0 then (some ((Int32.ofInt (-5)), q3.2)) else (oC (f_X7_changeProgramsToDraft k0 q3.2) fun q4 => (if s0 = 0 then (some ((Int32.ofInt 0), q4)) else (some ((Int32.ofInt 1), q4)))))))) := (zev_eq (lf_X7_exchange _) _ _ _ _).trans rfl
theorem k_X7_exchange : zLkV yX7_exchange cX7_exchange 4 (some .int) 7 2 := ⟨(tw3 (i := 231) rfl), (tw3 (i := 232) rfl), (tw1 (i := 1) rfl), (tw3 (i := 233) rfl), ⟨_, _, rfl⟩, rfl, by decide, by decide, by decide +kernel⟩
set_option maxHeartbeats 4000000 in
set_option maxRecDepth 20000 in
theorem a_X7_exchange {l : Launch} {D : va_G} {ad : Nat → Nat → Nat} {cA : Nat → ClassId} (hI : zInj ad) {ρ : Type} (X : ρ) : zAns l D ad cA yX7_exchange cX7_exchange 4 (some .int) 5 109 X (fun as => ∃ i as', as = zr 7 i :: as') (cI g_X7_exchange) := by
  intro as w Kf hv h
  obtain ⟨q, h1, h2⟩ := oC_inv h
  unfold g_X7_exchange at h1
  obtain ⟨tk0, k0, r, rfl, h1_1⟩ := pR_inv h1
  obtain ⟨bk0, h1_1z⟩ := zif_inv h1_1
  cases Nat.eq_of_beq_eq_true bk0
  obtain ⟨x1, r, rfl, h1_2⟩ := pI_inv h1_1z
  obtain ⟨x2, r, rfl, h1_3⟩ := pI_inv h1_2
  obtain ⟨rfl, h3⟩ := pE_inv h1_3
  exact ⟨_, _, ⟨_, _, rfl⟩, h2, trivial, zmeth (cM := cm_X7_exchange _) (bl := bl_X7_exchange) (ret := rI) hI (by decide) fl_X7 ll_X7 (lf_X7_exchange _) bk_X7_exchange (Nat.le_of_ble_eq_true rfl) hv (fun hF => (zml_cons (zcs hF ⟨Nat.le_refl _, Nat.le_refl _⟩ rfl (tw1 (i := 235) rfl) k_X7_isThread ⟨by decide, by decide⟩ (a_X7_isThread hI _)) (zml_cons (zcv hF ⟨Nat.le_refl _, Nat.le_refl _⟩ rfl (tw2 (i := 75) rfl) k_X2_lengthOf ⟨by decide, by decide⟩ (a_X2_lengthOf hI _)) (zml_cons (zcv hF ⟨Nat.le_refl _, Nat.le_refl _⟩ rfl (tw3 (i := 136) rfl) k_X2_stepOf ⟨by decide, by decide⟩ (a_X2_stepOf hI _)) (zml_cons (zcv hF ⟨Nat.le_refl _, Nat.le_refl _⟩ rfl (tw1 (i := 238) rfl) k_X2_copyFrom ⟨by decide, by decide⟩ (a_X2_copyFrom hI _)) (zml_cons (zcv hF ⟨Nat.le_refl _, Nat.le_refl _⟩ rfl (tw3 (i := 234) rfl) k_X2_swapWithNext ⟨by decide, by decide⟩ (a_X2_swapWithNext hI _)) (zml_cons (zcv hF ⟨Nat.le_refl _, Nat.le_refl _⟩ rfl (tw2 (i := 25) rfl) k_X2_isWell ⟨by decide, by decide⟩ (a_X2_isWell hI _)) (zml_cons (zcv hF ⟨Nat.le_refl _, Nat.le_refl _⟩ rfl (tw2 (i := 49) rfl) k_X7_changeProgramsToDraft ⟨by decide, by decide⟩ (a_X7_changeProgramsToDraft hI _)) zml_nil)))))))) (fun hF hr hk => zrt_I hF hr hk) h3⟩
def bl_X7_keep : ZBl := [(0, none, [(.aload_n 0, 1, 0, []), (.getfield 12, 3, 0, []), (.invokevirtual 90, 3, 0, []), (.bipush (-6), 2, 0, []), (.if_icmp .eq 6, 3, 15, [])]), (12, none, [(.bipush (-3), 2, 0, []), (.ireturn, 1, 0, [])]), (15, none, [(.aload_n 0, 1, 0, []), (.getfield 62, 3, 0, []), (.aload_n 0, 1, 0, []), (.getfield 12, 3, 0, []), (.invokevirtual 126, 3, 0, []), (.aload_n 0, 1, 0, []), (.getfield 48, 3, 0, []), (.aload_n 0, 1, 0, []), (.getfield 19, 3, 0, []), (.getfield 97, 3, 0, []), (.invokevirtual 130, 3, 0, []), (.aload_n 0, 1, 0, []), (.getfield 48, 3, 0, []), (.aload_n 0, 1, 0, []), (.getfield 62, 3, 0, []), (.invokevirtual 133, 3, 0, []), (.ifCond .ne 6, 3, 57, [])]), (54, none, [(.bipush (-5), 2, 0, []), (.ireturn, 1, 0, [])]), (57, none, [(.aload_n 0, 1, 0, []), (.getfield 26, 3, 0, []), (.aload_n 0, 1, 0, []), (.getfield 19, 3, 0, []), (.invokevirtual 137, 3, 0, []), (.aload_n 0, 1, 0, []), (.getfield 19, 3, 0, []), (.getfield 141, 3, 0, []), (.aload_n 0, 1, 0, []), (.getfield 62, 3, 0, []), (.invokevirtual 144, 3, 0, []), (.aload_n 0, 1, 0, []), (.getfield 12, 3, 0, []), (.invokevirtual 84, 3, 0, []), (.aload_n 0, 1, 0, []), (.getfield 19, 3, 0, []), (.getfield 141, 3, 0, []), (.invokevirtual 147, 3, 0, []), (.ireturn, 1, 0, [])])]
set_option maxRecDepth 20000 in
theorem bk_X7_keep : zdb cX7_keep 1 bl_X7_keep = true := by decide +kernel
noncomputable def cm_X7_keep (ρ : Type) : List (Nat × Nat × ZCall ρ) := [(180, 1, cI g_X1_faultAsRun), (252, 2, cV g_X3_readRun), (260, 2, cV g_X5_lookAt), (266, 2, cI g_X5_canRun), (274, 2, cV g_X0_record), (288, 2, cV g_X3_copyFrom), (168, 1, cV g_X1_clear), (294, 1, cI g_X3_length)]
theorem lf_X7_keep (ρ : Type) : LfM (cm_X7_keep ρ) := lfm_of (lfm_cons (lfc_I g_X1_faultAsRun) (lfm_cons (lfc_V g_X3_readRun) (lfm_cons (lfc_V g_X5_lookAt) (lfm_cons (lfc_I g_X5_canRun) (lfm_cons (lfc_V g_X0_record) (lfm_cons (lfc_V g_X3_copyFrom) (lfm_cons (lfc_V g_X1_clear) (lfm_cons (lfc_I g_X3_length) lfm_n))))))))
noncomputable def x_X7_keep : ZJ (Int32 × Wd) := zev cF_X7 cL_X7 bl_X7_keep (cm_X7_keep (Int32 × Wd)) rI
noncomputable def f_X7_keep (k0 : Nat) (w : Wd) : Option (Int32 × Wd) := x_X7_keep 0 [] [some (zr 7 k0)] w
noncomputable def g_X7_keep (r : List ZV) (w : Wd) : Option (Int32 × Wd) := pR r fun tk0 k0 r => zif (Nat.beq tk0 7) (pE r (f_X7_keep k0 w))
set_option maxRecDepth 20000 in
theorem e_X7_keep (k0 : Nat) (w : Wd) : f_X7_keep k0 w = (oC (f_X1_faultAsRun 0 w) fun q1 => (if q1.1 = (Int32.ofInt (-6)) then (oC (f_X3_readRun 9 0 q1.2) fun q2 => (oC (f_X5_lookAt 0 0 q2) fun q3 => (oC (f_X5_canRun 0 9 q3) fun q4 => (if q4.1 = 0 then (some ((Int32.ofInt (-5)), q4.2)) else (oC (f_X0_record 0 0 q4.2) fun q5 => (oC (f_X3_copyFrom 0 9 q5) fun q6 => (oC (f_X1_clear 0 q6) fun q7 => (oC (f_X3_length 0 q7) fun q8 => (some (q8.1, q8.2)))))))))) else (some ((Int32.ofInt (-3)), q1.2)))) := (zev_eq (lf_X7_keep _) _ _ _ _).trans rfl
theorem k_X7_keep : zLkV yX7_keep cX7_keep 1 (some .int) 7 0 := ⟨(tw3 (i := 202) rfl), (tw3 (i := 203) rfl), (tw1 (i := 1) rfl), (tw3 (i := 204) rfl), ⟨_, _, rfl⟩, rfl, by decide, by decide, by decide +kernel⟩
set_option maxHeartbeats 4000000 in
set_option maxRecDepth 20000 in
theorem a_X7_keep {l : Launch} {D : va_G} {ad : Nat → Nat → Nat} {cA : Nat → ClassId} (hI : zInj ad) {ρ : Type} (X : ρ) : zAns l D ad cA yX7_keep cX7_keep 1 (some .int) 5 114 X (fun as => ∃ i as', as = zr 7 i :: as') (cI g_X7_keep) := by
  intro as w Kf hv h
  obtain ⟨q, h1, h2⟩ := oC_inv h
  unfold g_X7_keep at h1
  obtain ⟨tk0, k0, r, rfl, h1_1⟩ := pR_inv h1
  obtain ⟨bk0, h1_1z⟩ := zif_inv h1_1
  cases Nat.eq_of_beq_eq_true bk0
  obtain ⟨rfl, h3⟩ := pE_inv h1_1z
  exact ⟨_, _, ⟨_, _, rfl⟩, h2, trivial, zmeth (cM := cm_X7_keep _) (bl := bl_X7_keep) (ret := rI) hI (by decide) fl_X7 ll_X7 (lf_X7_keep _) bk_X7_keep (Nat.le_of_ble_eq_true rfl) hv (fun hF => (zml_cons (zcv hF ⟨Nat.le_refl _, Nat.le_refl _⟩ rfl (tw1 (i := 227) rfl) k_X1_faultAsRun ⟨by decide, by decide⟩ (a_X1_faultAsRun hI _)) (zml_cons (zcv hF ⟨Nat.le_refl _, Nat.le_refl _⟩ rfl (tw2 (i := 239) rfl) k_X3_readRun ⟨by decide, by decide⟩ (a_X3_readRun hI _)) (zml_cons (zcv hF ⟨Nat.le_refl _, Nat.le_refl _⟩ rfl (tw2 (i := 114) rfl) k_X5_lookAt ⟨by decide, by decide⟩ (a_X5_lookAt hI _)) (zml_cons (zcv hF ⟨Nat.le_refl _, Nat.le_refl _⟩ rfl (tw3 (i := 10) rfl) k_X5_canRun ⟨by decide, by decide⟩ (a_X5_canRun hI _)) (zml_cons (zcv hF ⟨Nat.le_refl _, Nat.le_refl _⟩ rfl (tw2 (i := 53) rfl) k_X0_record ⟨by decide, by decide⟩ (a_X0_record hI _)) (zml_cons (zcv hF ⟨Nat.le_refl _, Nat.le_refl _⟩ rfl (tw3 (i := 205) rfl) k_X3_copyFrom ⟨by decide, by decide⟩ (a_X3_copyFrom hI _)) (zml_cons (zcv hF ⟨Nat.le_refl _, Nat.le_refl _⟩ rfl (tw2 (i := 71) rfl) k_X1_clear ⟨by decide, by decide⟩ (a_X1_clear hI _)) (zml_cons (zcv hF ⟨Nat.le_refl _, Nat.le_refl _⟩ rfl (tw2 (i := 93) rfl) k_X3_length ⟨by decide, by decide⟩ (a_X3_length hI _)) zml_nil))))))))) (fun hF hr hk => zrt_I hF hr hk) h3⟩
def bl_X7_ofStep : ZBl := [(0, none, [(.aload_n 0, 1, 0, []), (.getfield 19, 3, 0, []), (.getfield 97, 3, 0, []), (.iload_n 1, 1, 0, []), (.iload_n 2, 1, 0, []), (.invokevirtual 118, 3, 0, []), (.istore 4, 2, 0, []), (.iload 4, 2, 0, []), (.iconst (-1), 1, 0, []), (.if_icmp .ne 5, 3, 22, [])]), (20, none, [(.iconst (-1), 1, 0, []), (.ireturn, 1, 0, [])]), (22, none, [(.iload_n 3, 1, 0, []), (.tableswitch 50 0 2 #[25, 31, 37], 25, 73, [(0, 48), (1, 54), (2, 60)])]), (48, none, [(.iload 4, 2, 0, []), (.invokestatic 149, 3, 0, []), (.ireturn, 1, 0, [])]), (54, none, [(.iload 4, 2, 0, []), (.invokestatic 152, 3, 0, []), (.ireturn, 1, 0, [])]), (60, none, [(.aload_n 0, 1, 0, []), (.getfield 19, 3, 0, []), (.getfield 97, 3, 0, []), (.iload_n 1, 1, 0, []), (.iload_n 2, 1, 0, []), (.invokevirtual 155, 3, 0, []), (.ireturn, 1, 0, [])]), (73, none, [(.bipush (-2), 2, 0, []), (.ireturn, 1, 0, [])])]
set_option maxRecDepth 20000 in
theorem bk_X7_ofStep : zdb cX7_ofStep 5 bl_X7_ofStep = true := by decide +kernel
noncomputable def cm_X7_ofStep (ρ : Type) : List (Nat × Nat × ZCall ρ) := [(236, 3, cI g_X2_stepOf), (299, 1, cI g_X7_kindOf), (305, 1, cI g_X7_nameOf), (310, 3, cI g_X2_conflictsOf)]
theorem lf_X7_ofStep (ρ : Type) : LfM (cm_X7_ofStep ρ) := lfm_of (lfm_cons (lfc_I g_X2_stepOf) (lfm_cons (lfc_I g_X7_kindOf) (lfm_cons (lfc_I g_X7_nameOf) (lfm_cons (lfc_I g_X2_conflictsOf) lfm_n))))
noncomputable def x_X7_ofStep : ZJ (Int32 × Wd) := zev cF_X7 cL_X7 bl_X7_ofStep (cm_X7_ofStep (Int32 × Wd)) rI
noncomputable def f_X7_ofStep (k0 : Nat) (x1 : Int32) (x2 : Int32) (x3 : Int32) (w : Wd) : Option (Int32 × Wd) := x_X7_ofStep 0 [] [some (zr 7 k0), some (zi x1), some (zi x2), some (zi x3), none] w
noncomputable def g_X7_ofStep (r : List ZV) (w : Wd) : Option (Int32 × Wd) := pR r fun tk0 k0 r => zif (Nat.beq tk0 7) (pI r fun x1 r => pI r fun x2 r => pI r fun x3 r => pE r (f_X7_ofStep k0 x1 x2 x3 w))
set_option maxRecDepth 20000 in
theorem e_X7_ofStep (k0 : Nat) (x1 : Int32) (x2 : Int32) (x3 : Int32) (w : Wd) : f_X7_ofStep k0 x1 x2 x3 w = (oC (f_X2_stepOf 0 x1 x2 w) fun q1 => (if q1.1 = (Int32.ofInt (-1)) then (some ((Int32.ofInt (-1)), q1.2)) else (if x3 = (Int32.ofInt 0) then (oC (f_X7_kindOf q1.1 q1.2) fun q4 => (some (q4.1, q4.2))) else (if x3 = (Int32.ofInt 1) then (oC (f_X7_nameOf q1.1 q1.2) fun q3 => (some (q3.1, q3.2))) else (if x3 = (Int32.ofInt 2) then (oC (f_X2_conflictsOf 0 x1 x2 q1.2) fun q2 => (some (q2.1, q2.2))) else (some ((Int32.ofInt (-2)), q1.2))))))) := (zev_eq (lf_X7_ofStep _) _ _ _ _).trans rfl
theorem k_X7_ofStep : zLkV yX7_ofStep cX7_ofStep 5 (some .int) 7 3 := ⟨(tw3 (i := 133) rfl), (tw3 (i := 134) rfl), (tw1 (i := 1) rfl), (tw3 (i := 135) rfl), ⟨_, _, rfl⟩, rfl, by decide, by decide, by decide +kernel⟩
set_option maxHeartbeats 4000000 in
set_option maxRecDepth 20000 in
theorem a_X7_ofStep {l : Launch} {D : va_G} {ad : Nat → Nat → Nat} {cA : Nat → ClassId} (hI : zInj ad) {ρ : Type} (X : ρ) : zAns l D ad cA yX7_ofStep cX7_ofStep 5 (some .int) 3 69 X (fun as => ∃ i as', as = zr 7 i :: as') (cI g_X7_ofStep) := by
  intro as w Kf hv h
  obtain ⟨q, h1, h2⟩ := oC_inv h
  unfold g_X7_ofStep at h1
  obtain ⟨tk0, k0, r, rfl, h1_1⟩ := pR_inv h1
  obtain ⟨bk0, h1_1z⟩ := zif_inv h1_1
  cases Nat.eq_of_beq_eq_true bk0
  obtain ⟨x1, r, rfl, h1_2⟩ := pI_inv h1_1z
  obtain ⟨x2, r, rfl, h1_3⟩ := pI_inv h1_2
  obtain ⟨x3, r, rfl, h1_4⟩ := pI_inv h1_3
  obtain ⟨rfl, h3⟩ := pE_inv h1_4
  exact ⟨_, _, ⟨_, _, rfl⟩, h2, trivial, zmeth (cM := cm_X7_ofStep _) (bl := bl_X7_ofStep) (ret := rI) hI (by decide) fl_X7 ll_X7 (lf_X7_ofStep _) bk_X7_ofStep (Nat.le_of_ble_eq_true rfl) hv (fun hF => (zml_cons (zcv hF ⟨Nat.le_refl _, Nat.le_refl _⟩ rfl (tw3 (i := 136) rfl) k_X2_stepOf ⟨by decide, by decide⟩ (a_X2_stepOf hI _)) (zml_cons (zcs hF ⟨Nat.le_refl _, Nat.le_refl _⟩ rfl (tw2 (i := 109) rfl) k_X7_kindOf ⟨by decide, by decide⟩ (a_X7_kindOf hI _)) (zml_cons (zcs hF ⟨Nat.le_refl _, Nat.le_refl _⟩ rfl (tw2 (i := 108) rfl) k_X7_nameOf ⟨by decide, by decide⟩ (a_X7_nameOf hI _)) (zml_cons (zcv hF ⟨Nat.le_refl _, Nat.le_refl _⟩ rfl (tw3 (i := 137) rfl) k_X2_conflictsOf ⟨by decide, by decide⟩ (a_X2_conflictsOf hI _)) zml_nil))))) (fun hF hr hk => zrt_I hF hr hk) h3⟩
def bl_X7_count : ZBl := [(0, none, [(.iload_n 1, 1, 0, []), (.invokestatic 93, 3, 0, []), (.ifCond .eq 15, 3, 19, [])]), (7, none, [(.aload_n 0, 1, 0, []), (.getfield 19, 3, 0, []), (.getfield 97, 3, 0, []), (.iload_n 1, 1, 0, []), (.invokevirtual 114, 3, 0, []), (.ireturn, 1, 0, [])]), (19, none, [(.iload_n 1, 1, 0, []), (.tableswitch 85 4 8 #[36, 47, 55, 63, 74], 36, 105, [(4, 56), (5, 67), (6, 75), (7, 83), (8, 94)])]), (56, none, [(.aload_n 0, 1, 0, []), (.getfield 19, 3, 0, []), (.getfield 97, 3, 0, []), (.invokevirtual 158, 3, 0, []), (.ireturn, 1, 0, [])]), (67, none, [(.aload_n 0, 1, 0, []), (.getfield 12, 3, 0, []), (.invokevirtual 76, 3, 0, []), (.ireturn, 1, 0, [])]), (75, none, [(.aload_n 0, 1, 0, []), (.getfield 26, 3, 0, []), (.invokevirtual 161, 3, 0, []), (.ireturn, 1, 0, [])]), (83, none, [(.aload_n 0, 1, 0, []), (.getfield 19, 3, 0, []), (.getfield 141, 3, 0, []), (.invokevirtual 147, 3, 0, []), (.ireturn, 1, 0, [])]), (94, none, [(.aload_n 0, 1, 0, []), (.getfield 19, 3, 0, []), (.getfield 97, 3, 0, []), (.invokevirtual 164, 3, 0, []), (.ireturn, 1, 0, [])]), (105, none, [(.bipush (-2), 2, 0, []), (.ireturn, 1, 0, [])])]
set_option maxRecDepth 20000 in
theorem bk_X7_count : zdb cX7_count 2 bl_X7_count = true := by decide +kernel
noncomputable def cm_X7_count (ρ : Type) : List (Nat × Nat × ZCall ρ) := [(187, 1, cI g_X7_isThread), (228, 2, cI g_X2_lengthOf), (316, 1, cI g_X2_allSteps), (152, 1, cI g_X1_length), (322, 1, cI g_X0_size), (294, 1, cI g_X3_length), (328, 1, cI g_X2_conflictingPairs)]
theorem lf_X7_count (ρ : Type) : LfM (cm_X7_count ρ) := lfm_of (lfm_cons (lfc_I g_X7_isThread) (lfm_cons (lfc_I g_X2_lengthOf) (lfm_cons (lfc_I g_X2_allSteps) (lfm_cons (lfc_I g_X1_length) (lfm_cons (lfc_I g_X0_size) (lfm_cons (lfc_I g_X3_length) (lfm_cons (lfc_I g_X2_conflictingPairs) lfm_n)))))))
noncomputable def x_X7_count : ZJ (Int32 × Wd) := zev cF_X7 cL_X7 bl_X7_count (cm_X7_count (Int32 × Wd)) rI
noncomputable def f_X7_count (k0 : Nat) (x1 : Int32) (w : Wd) : Option (Int32 × Wd) := x_X7_count 0 [] [some (zr 7 k0), some (zi x1)] w
noncomputable def g_X7_count (r : List ZV) (w : Wd) : Option (Int32 × Wd) := pR r fun tk0 k0 r => zif (Nat.beq tk0 7) (pI r fun x1 r => pE r (f_X7_count k0 x1 w))
set_option maxRecDepth 20000 in
theorem e_X7_count (k0 : Nat) (x1 : Int32) (w : Wd) : f_X7_count k0 x1 w = (oC (f_X7_isThread x1 w) fun q1 => (if q1.1 = 0 then (if x1 = (Int32.ofInt 4) then (oC (f_X2_allSteps 0 q1.2) fun q6 => (some (q6.1, q6.2))) else (if x1 = (Int32.ofInt 5) then (oC (f_X1_length 0 q1.2) fun q5 => (some (q5.1, q5.2))) else (if x1 = (Int32.ofInt 6) then (oC (f_X0_size 0 q1.2) fun q4 => (some (q4.1, q4.2))) else (if x1 = (Int32.ofInt 7) then (oC (f_X3_length 0 q1.2) fun q3 => (some (q3.1, q3.2))) else (if x1 = (Int32.ofInt 8) then (oC (f_X2_conflictingPairs 0 q1.2) fun q2 => (some (q2.1, q2.2))) else (some ((Int32.ofInt (-2)), q1.2))))))) else (oC (f_X2_lengthOf 0 x1 q1.2) fun q7 => (some (q7.1, q7.2))))) := (zev_eq (lf_X7_count _) _ _ _ _).trans rfl
theorem k_X7_count : zLkV yX7_count cX7_count 2 (some .int) 7 1 := ⟨(tw2 (i := 81) rfl), (tw2 (i := 82) rfl), (tw1 (i := 1) rfl), (tw2 (i := 83) rfl), ⟨_, _, rfl⟩, rfl, by decide, by decide, by decide +kernel⟩
set_option maxHeartbeats 4000000 in
set_option maxRecDepth 20000 in
theorem a_X7_count {l : Launch} {D : va_G} {ad : Nat → Nat → Nat} {cA : Nat → ClassId} (hI : zInj ad) {ρ : Type} (X : ρ) : zAns l D ad cA yX7_count cX7_count 2 (some .int) 4 92 X (fun as => ∃ i as', as = zr 7 i :: as') (cI g_X7_count) := by
  intro as w Kf hv h
  obtain ⟨q, h1, h2⟩ := oC_inv h
  unfold g_X7_count at h1
  obtain ⟨tk0, k0, r, rfl, h1_1⟩ := pR_inv h1
  obtain ⟨bk0, h1_1z⟩ := zif_inv h1_1
  cases Nat.eq_of_beq_eq_true bk0
  obtain ⟨x1, r, rfl, h1_2⟩ := pI_inv h1_1z
  obtain ⟨rfl, h3⟩ := pE_inv h1_2
  exact ⟨_, _, ⟨_, _, rfl⟩, h2, trivial, zmeth (cM := cm_X7_count _) (bl := bl_X7_count) (ret := rI) hI (by decide) fl_X7 ll_X7 (lf_X7_count _) bk_X7_count (Nat.le_of_ble_eq_true rfl) hv (fun hF => (zml_cons (zcs hF ⟨Nat.le_refl _, Nat.le_refl _⟩ rfl (tw1 (i := 235) rfl) k_X7_isThread ⟨by decide, by decide⟩ (a_X7_isThread hI _)) (zml_cons (zcv hF ⟨Nat.le_refl _, Nat.le_refl _⟩ rfl (tw2 (i := 75) rfl) k_X2_lengthOf ⟨by decide, by decide⟩ (a_X2_lengthOf hI _)) (zml_cons (zcv hF ⟨Nat.le_refl _, Nat.le_refl _⟩ rfl (tw2 (i := 84) rfl) k_X2_allSteps ⟨by decide, by decide⟩ (a_X2_allSteps hI _)) (zml_cons (zcv hF ⟨Nat.le_refl _, Nat.le_refl _⟩ rfl (tw2 (i := 88) rfl) k_X1_length ⟨by decide, by decide⟩ (a_X1_length hI _)) (zml_cons (zcv hF ⟨Nat.le_refl _, Nat.le_refl _⟩ rfl (tw2 (i := 89) rfl) k_X0_size ⟨by decide, by decide⟩ (a_X0_size hI _)) (zml_cons (zcv hF ⟨Nat.le_refl _, Nat.le_refl _⟩ rfl (tw2 (i := 93) rfl) k_X3_length ⟨by decide, by decide⟩ (a_X3_length hI _)) (zml_cons (zcv hF ⟨Nat.le_refl _, Nat.le_refl _⟩ rfl (tw2 (i := 97) rfl) k_X2_conflictingPairs ⟨by decide, by decide⟩ (a_X2_conflictingPairs hI _)) zml_nil)))))))) (fun hF hr hk => zrt_I hF hr hk) h3⟩
def bl_X7_stands : ZBl := [(0, none, [(.aload_n 0, 1, 0, []), (.getfield 48, 3, 0, []), (.aload_n 0, 1, 0, []), (.getfield 19, 3, 0, []), (.getfield 97, 3, 0, []), (.invokevirtual 130, 3, 0, []), (.iload_n 1, 1, 0, []), (.tableswitch 49 0 2 #[25, 33, 41], 25, 64, [(0, 40), (1, 48), (2, 56)])]), (40, none, [(.aload_n 0, 1, 0, []), (.getfield 48, 3, 0, []), (.invokevirtual 167, 3, 0, []), (.ireturn, 1, 0, [])]), (48, none, [(.aload_n 0, 1, 0, []), (.getfield 48, 3, 0, []), (.invokevirtual 170, 3, 0, []), (.ireturn, 1, 0, [])]), (56, none, [(.aload_n 0, 1, 0, []), (.getfield 48, 3, 0, []), (.invokevirtual 173, 3, 0, []), (.ireturn, 1, 0, [])]), (64, none, [(.bipush (-2), 2, 0, []), (.ireturn, 1, 0, [])])]
set_option maxRecDepth 20000 in
theorem bk_X7_stands : zdb cX7_stands 2 bl_X7_stands = true := by decide +kernel
noncomputable def cm_X7_stands (ρ : Type) : List (Nat × Nat × ZCall ρ) := [(260, 2, cV g_X5_lookAt), (334, 1, cI g_X5_reachableStands), (340, 1, cI g_X5_ends), (346, 1, cI g_X5_deadlocks)]
theorem lf_X7_stands (ρ : Type) : LfM (cm_X7_stands ρ) := lfm_of (lfm_cons (lfc_V g_X5_lookAt) (lfm_cons (lfc_I g_X5_reachableStands) (lfm_cons (lfc_I g_X5_ends) (lfm_cons (lfc_I g_X5_deadlocks) lfm_n))))
noncomputable def x_X7_stands : ZJ (Int32 × Wd) := zev cF_X7 cL_X7 bl_X7_stands (cm_X7_stands (Int32 × Wd)) rI
noncomputable def f_X7_stands (k0 : Nat) (x1 : Int32) (w : Wd) : Option (Int32 × Wd) := x_X7_stands 0 [] [some (zr 7 k0), some (zi x1)] w
noncomputable def g_X7_stands (r : List ZV) (w : Wd) : Option (Int32 × Wd) := pR r fun tk0 k0 r => zif (Nat.beq tk0 7) (pI r fun x1 r => pE r (f_X7_stands k0 x1 w))
set_option maxRecDepth 20000 in
theorem e_X7_stands (k0 : Nat) (x1 : Int32) (w : Wd) : f_X7_stands k0 x1 w = (oC (f_X5_lookAt 0 0 w) fun q1 => (if x1 = (Int32.ofInt 0) then (oC (f_X5_reachableStands 0 q1) fun q4 => (some (q4.1, q4.2))) else (if x1 = (Int32.ofInt 1) then (oC (f_X5_ends 0 q1) fun q3 => (some (q3.1, q3.2))) else (if x1 = (Int32.ofInt 2) then (oC (f_X5_deadlocks 0 q1) fun q2 => (some (q2.1, q2.2))) else (some ((Int32.ofInt (-2)), q1)))))) := (zev_eq (lf_X7_stands _) _ _ _ _).trans rfl
theorem k_X7_stands : zLkV yX7_stands cX7_stands 2 (some .int) 7 1 := ⟨(tw2 (i := 111) rfl), (tw2 (i := 112) rfl), (tw1 (i := 1) rfl), (tw2 (i := 113) rfl), ⟨_, _, rfl⟩, rfl, by decide, by decide, by decide +kernel⟩
set_option maxHeartbeats 4000000 in
set_option maxRecDepth 20000 in
theorem a_X7_stands {l : Launch} {D : va_G} {ad : Nat → Nat → Nat} {cA : Nat → ClassId} (hI : zInj ad) {ρ : Type} (X : ρ) : zAns l D ad cA yX7_stands cX7_stands 2 (some .int) 5 114 X (fun as => ∃ i as', as = zr 7 i :: as') (cI g_X7_stands) := by
  intro as w Kf hv h
  obtain ⟨q, h1, h2⟩ := oC_inv h
  unfold g_X7_stands at h1
  obtain ⟨tk0, k0, r, rfl, h1_1⟩ := pR_inv h1
  obtain ⟨bk0, h1_1z⟩ := zif_inv h1_1
  cases Nat.eq_of_beq_eq_true bk0
  obtain ⟨x1, r, rfl, h1_2⟩ := pI_inv h1_1z
  obtain ⟨rfl, h3⟩ := pE_inv h1_2
  exact ⟨_, _, ⟨_, _, rfl⟩, h2, trivial, zmeth (cM := cm_X7_stands _) (bl := bl_X7_stands) (ret := rI) hI (by decide) fl_X7 ll_X7 (lf_X7_stands _) bk_X7_stands (Nat.le_of_ble_eq_true rfl) hv (fun hF => (zml_cons (zcv hF ⟨Nat.le_refl _, Nat.le_refl _⟩ rfl (tw2 (i := 114) rfl) k_X5_lookAt ⟨by decide, by decide⟩ (a_X5_lookAt hI _)) (zml_cons (zcv hF ⟨Nat.le_refl _, Nat.le_refl _⟩ rfl (tw2 (i := 165) rfl) k_X5_reachableStands ⟨by decide, by decide⟩ (a_X5_reachableStands hI _)) (zml_cons (zcv hF ⟨Nat.le_refl _, Nat.le_refl _⟩ rfl (tw2 (i := 169) rfl) k_X5_ends ⟨by decide, by decide⟩ (a_X5_ends hI _)) (zml_cons (zcv hF ⟨Nat.le_refl _, Nat.le_refl _⟩ rfl (tw2 (i := 177) rfl) k_X5_deadlocks ⟨by decide, by decide⟩ (a_X5_deadlocks hI _)) zml_nil))))) (fun hF hr hk => zrt_I hF hr hk) h3⟩
def bl_X7_deadlock : ZBl := [(0, none, [(.aload_n 0, 1, 0, []), (.getfield 48, 3, 0, []), (.aload_n 0, 1, 0, []), (.getfield 19, 3, 0, []), (.getfield 97, 3, 0, []), (.invokevirtual 130, 3, 0, []), (.aload_n 0, 1, 0, []), (.getfield 48, 3, 0, []), (.iload_n 1, 1, 0, []), (.invokevirtual 176, 3, 0, []), (.istore_n 3, 1, 0, []), (.iload_n 3, 1, 0, []), (.iconst (-1), 1, 0, []), (.if_icmp .ne 5, 3, 30, [])]), (28, none, [(.iconst (-1), 1, 0, []), (.ireturn, 1, 0, [])]), (30, none, [(.iload_n 2, 1, 0, []), (.invokestatic 93, 3, 0, []), (.ifCond .eq 9, 3, 43, [])]), (37, none, [(.iload_n 3, 1, 0, []), (.iload_n 2, 1, 0, []), (.invokestatic 179, 3, 0, []), (.ireturn, 1, 0, [])]), (43, none, [(.iload_n 2, 1, 0, []), (.tableswitch 51 4 6 #[28, 37, 42], 28, 95, [(4, 72), (5, 81), (6, 86)])]), (72, none, [(.aload_n 0, 1, 0, []), (.getfield 48, 3, 0, []), (.iload_n 3, 1, 0, []), (.invokevirtual 182, 3, 0, []), (.ireturn, 1, 0, [])]), (81, none, [(.iload_n 3, 1, 0, []), (.invokestatic 185, 3, 0, []), (.ireturn, 1, 0, [])]), (86, none, [(.aload_n 0, 1, 0, []), (.getfield 48, 3, 0, []), (.iload_n 3, 1, 0, []), (.invokevirtual 188, 3, 0, []), (.ireturn, 1, 0, [])]), (95, none, [(.bipush (-2), 2, 0, []), (.ireturn, 1, 0, [])])]
set_option maxRecDepth 20000 in
theorem bk_X7_deadlock : zdb cX7_deadlock 4 bl_X7_deadlock = true := by decide +kernel
noncomputable def cm_X7_deadlock (ρ : Type) : List (Nat × Nat × ZCall ρ) := [(260, 2, cV g_X5_lookAt), (352, 2, cI g_X5_deadlockAt), (187, 1, cI g_X7_isThread), (359, 2, cI g_X7_doneBy), (364, 2, cI g_X5_unfinishedThreads), (371, 1, cI g_X7_stepsDone), (376, 2, cI g_X5_heldLocks)]
theorem lf_X7_deadlock (ρ : Type) : LfM (cm_X7_deadlock ρ) := lfm_of (lfm_cons (lfc_V g_X5_lookAt) (lfm_cons (lfc_I g_X5_deadlockAt) (lfm_cons (lfc_I g_X7_isThread) (lfm_cons (lfc_I g_X7_doneBy) (lfm_cons (lfc_I g_X5_unfinishedThreads) (lfm_cons (lfc_I g_X7_stepsDone) (lfm_cons (lfc_I g_X5_heldLocks) lfm_n)))))))
noncomputable def x_X7_deadlock : ZJ (Int32 × Wd) := zev cF_X7 cL_X7 bl_X7_deadlock (cm_X7_deadlock (Int32 × Wd)) rI
noncomputable def f_X7_deadlock (k0 : Nat) (x1 : Int32) (x2 : Int32) (w : Wd) : Option (Int32 × Wd) := x_X7_deadlock 0 [] [some (zr 7 k0), some (zi x1), some (zi x2), none] w
noncomputable def g_X7_deadlock (r : List ZV) (w : Wd) : Option (Int32 × Wd) := pR r fun tk0 k0 r => zif (Nat.beq tk0 7) (pI r fun x1 r => pI r fun x2 r => pE r (f_X7_deadlock k0 x1 x2 w))
set_option maxRecDepth 20000 in
theorem e_X7_deadlock (k0 : Nat) (x1 : Int32) (x2 : Int32) (w : Wd) : f_X7_deadlock k0 x1 x2 w = (oC (f_X5_lookAt 0 0 w) fun q1 => (oC (f_X5_deadlockAt 0 x1 q1) fun q2 => (if q2.1 = (Int32.ofInt (-1)) then (some ((Int32.ofInt (-1)), q2.2)) else (oC (f_X7_isThread x2 q2.2) fun q3 => (if q3.1 = 0 then (if x2 = (Int32.ofInt 4) then (oC (f_X5_unfinishedThreads 0 q2.1 q3.2) fun q6 => (some (q6.1, q6.2))) else (if x2 = (Int32.ofInt 5) then (oC (f_X7_stepsDone q2.1 q3.2) fun q5 => (some (q5.1, q5.2))) else (if x2 = (Int32.ofInt 6) then (oC (f_X5_heldLocks 0 q2.1 q3.2) fun q4 => (some (q4.1, q4.2))) else (some ((Int32.ofInt (-2)), q3.2))))) else (oC (f_X7_doneBy q2.1 x2 q3.2) fun q7 => (some (q7.1, q7.2)))))))) := (zev_eq (lf_X7_deadlock _) _ _ _ _).trans rfl
theorem k_X7_deadlock : zLkV yX7_deadlock cX7_deadlock 4 (some .int) 7 2 := ⟨(tw3 (i := 142) rfl), (tw3 (i := 143) rfl), (tw1 (i := 1) rfl), (tw3 (i := 144) rfl), ⟨_, _, rfl⟩, rfl, by decide, by decide, by decide +kernel⟩
set_option maxHeartbeats 4000000 in
set_option maxRecDepth 20000 in
theorem a_X7_deadlock {l : Launch} {D : va_G} {ad : Nat → Nat → Nat} {cA : Nat → ClassId} (hI : zInj ad) {ρ : Type} (X : ρ) : zAns l D ad cA yX7_deadlock cX7_deadlock 4 (some .int) 5 114 X (fun as => ∃ i as', as = zr 7 i :: as') (cI g_X7_deadlock) := by
  intro as w Kf hv h
  obtain ⟨q, h1, h2⟩ := oC_inv h
  unfold g_X7_deadlock at h1
  obtain ⟨tk0, k0, r, rfl, h1_1⟩ := pR_inv h1
  obtain ⟨bk0, h1_1z⟩ := zif_inv h1_1
  cases Nat.eq_of_beq_eq_true bk0
  obtain ⟨x1, r, rfl, h1_2⟩ := pI_inv h1_1z
  obtain ⟨x2, r, rfl, h1_3⟩ := pI_inv h1_2
  obtain ⟨rfl, h3⟩ := pE_inv h1_3
  exact ⟨_, _, ⟨_, _, rfl⟩, h2, trivial, zmeth (cM := cm_X7_deadlock _) (bl := bl_X7_deadlock) (ret := rI) hI (by decide) fl_X7 ll_X7 (lf_X7_deadlock _) bk_X7_deadlock (Nat.le_of_ble_eq_true rfl) hv (fun hF => (zml_cons (zcv hF ⟨Nat.le_refl _, Nat.le_refl _⟩ rfl (tw2 (i := 114) rfl) k_X5_lookAt ⟨by decide, by decide⟩ (a_X5_lookAt hI _)) (zml_cons (zcv hF ⟨Nat.le_refl _, Nat.le_refl _⟩ rfl (tw3 (i := 145) rfl) k_X5_deadlockAt ⟨by decide, by decide⟩ (a_X5_deadlockAt hI _)) (zml_cons (zcs hF ⟨Nat.le_refl _, Nat.le_refl _⟩ rfl (tw1 (i := 235) rfl) k_X7_isThread ⟨by decide, by decide⟩ (a_X7_isThread hI _)) (zml_cons (zcs hF ⟨Nat.le_refl _, Nat.le_refl _⟩ rfl (tw3 (i := 149) rfl) k_X7_doneBy ⟨by decide, by decide⟩ (a_X7_doneBy hI _)) (zml_cons (zcv hF ⟨Nat.le_refl _, Nat.le_refl _⟩ rfl (tw3 (i := 150) rfl) k_X5_unfinishedThreads ⟨by decide, by decide⟩ (a_X5_unfinishedThreads hI _)) (zml_cons (zcs hF ⟨Nat.le_refl _, Nat.le_refl _⟩ rfl (tw3 (i := 151) rfl) k_X7_stepsDone ⟨by decide, by decide⟩ (a_X7_stepsDone hI _)) (zml_cons (zcv hF ⟨Nat.le_refl _, Nat.le_refl _⟩ rfl (tw3 (i := 154) rfl) k_X5_heldLocks ⟨by decide, by decide⟩ (a_X5_heldLocks hI _)) zml_nil)))))))) (fun hF hr hk => zrt_I hF hr hk) h3⟩
def bl_X7_runs : ZBl := [(0, none, [(.aload_n 0, 1, 0, []), (.getfield 48, 3, 0, []), (.aload_n 0, 1, 0, []), (.getfield 19, 3, 0, []), (.getfield 97, 3, 0, []), (.invokevirtual 130, 3, 0, []), (.iload_n 1, 1, 0, []), (.lookupswitch 41 #[(0, 25), (1, 33)], 25, 56, [(0, 40), (1, 48)])]), (40, none, [(.aload_n 0, 1, 0, []), (.getfield 48, 3, 0, []), (.invokevirtual 191, 3, 0, []), (.lreturn, 1, 0, [])]), (48, none, [(.aload_n 0, 1, 0, []), (.getfield 48, 3, 0, []), (.invokevirtual 195, 3, 0, []), (.lreturn, 1, 0, [])]), (56, none, [(.ldc2_w 198, 3, 0, []), (.lreturn, 1, 0, [])])]
set_option maxRecDepth 20000 in
theorem bk_X7_runs : zdb cX7_runs 2 bl_X7_runs = true := by decide +kernel
noncomputable def cm_X7_runs (ρ : Type) : List (Nat × Nat × ZCall ρ) := [(260, 2, cV g_X5_lookAt), (382, 1, cJ g_X5_wholeRuns), (390, 1, cJ g_X5_wholeRunsToDeadlocks)]
theorem lf_X7_runs (ρ : Type) : LfM (cm_X7_runs ρ) := lfm_of (lfm_cons (lfc_V g_X5_lookAt) (lfm_cons (lfc_J g_X5_wholeRuns) (lfm_cons (lfc_J g_X5_wholeRunsToDeadlocks) lfm_n)))
noncomputable def x_X7_runs : ZJ (Int64 × Wd) := zev cF_X7 cL_X7 bl_X7_runs (cm_X7_runs (Int64 × Wd)) rJ
noncomputable def f_X7_runs (k0 : Nat) (x1 : Int32) (w : Wd) : Option (Int64 × Wd) := x_X7_runs 0 [] [some (zr 7 k0), some (zi x1)] w
noncomputable def g_X7_runs (r : List ZV) (w : Wd) : Option (Int64 × Wd) := pR r fun tk0 k0 r => zif (Nat.beq tk0 7) (pI r fun x1 r => pE r (f_X7_runs k0 x1 w))
set_option maxRecDepth 20000 in
theorem e_X7_runs (k0 : Nat) (x1 : Int32) (w : Wd) : f_X7_runs k0 x1 w = (oC (f_X5_lookAt 0 0 w) fun q1 => (if x1 = (Int32.ofInt 0) then (oC (f_X5_wholeRuns 0 q1) fun q3 => (some (q3.1, q3.2))) else (if x1 = (Int32.ofInt 1) then (oC (f_X5_wholeRunsToDeadlocks 0 q1) fun q2 => (some (q2.1, q2.2))) else (some ((-2 : Int64), q1))))) := (zev_eq (lf_X7_runs _) _ _ _ _).trans rfl
theorem k_X7_runs : zLkV yX7_runs cX7_runs 2 (some .long) 7 1 := ⟨(tw2 (i := 190) rfl), (tw2 (i := 191) rfl), (tw1 (i := 1) rfl), (tw2 (i := 192) rfl), ⟨_, _, rfl⟩, rfl, by decide, by decide, by decide +kernel⟩
set_option maxHeartbeats 4000000 in
set_option maxRecDepth 20000 in
theorem a_X7_runs {l : Launch} {D : va_G} {ad : Nat → Nat → Nat} {cA : Nat → ClassId} (hI : zInj ad) {ρ : Type} (X : ρ) : zAns l D ad cA yX7_runs cX7_runs 2 (some .long) 5 114 X (fun as => ∃ i as', as = zr 7 i :: as') (cJ g_X7_runs) := by
  intro as w Kf hv h
  obtain ⟨q, h1, h2⟩ := oC_inv h
  unfold g_X7_runs at h1
  obtain ⟨tk0, k0, r, rfl, h1_1⟩ := pR_inv h1
  obtain ⟨bk0, h1_1z⟩ := zif_inv h1_1
  cases Nat.eq_of_beq_eq_true bk0
  obtain ⟨x1, r, rfl, h1_2⟩ := pI_inv h1_1z
  obtain ⟨rfl, h3⟩ := pE_inv h1_2
  exact ⟨_, _, ⟨_, _, rfl⟩, h2, trivial, zmeth (cM := cm_X7_runs _) (bl := bl_X7_runs) (ret := rJ) hI (by decide) fl_X7 ll_X7 (lf_X7_runs _) bk_X7_runs (Nat.le_of_ble_eq_true rfl) hv (fun hF => (zml_cons (zcv hF ⟨Nat.le_refl _, Nat.le_refl _⟩ rfl (tw2 (i := 114) rfl) k_X5_lookAt ⟨by decide, by decide⟩ (a_X5_lookAt hI _)) (zml_cons (zcv hF ⟨Nat.le_refl _, Nat.le_refl _⟩ rfl (tw2 (i := 193) rfl) k_X5_wholeRuns ⟨by decide, by decide⟩ (a_X5_wholeRuns hI _)) (zml_cons (zcv hF ⟨Nat.le_refl _, Nat.le_refl _⟩ rfl (tw2 (i := 197) rfl) k_X5_wholeRunsToDeadlocks ⟨by decide, by decide⟩ (a_X5_wholeRunsToDeadlocks hI _)) zml_nil)))) (fun hF hr hk => zrt_J hF hr hk) h3⟩
def bl_X7_sleeping : ZBl := [(0, none, [(.aload_n 0, 1, 0, []), (.getfield 48, 3, 0, []), (.aload_n 0, 1, 0, []), (.getfield 19, 3, 0, []), (.getfield 97, 3, 0, []), (.invokevirtual 130, 3, 0, []), (.aload_n 0, 1, 0, []), (.getfield 48, 3, 0, []), (.invokevirtual 200, 3, 0, []), (.iload_n 1, 1, 0, []), (.tableswitch 51 0 2 #[26, 34, 42], 26, 73, [(0, 48), (1, 56), (2, 64)])]), (48, none, [(.aload_n 0, 1, 0, []), (.getfield 48, 3, 0, []), (.invokevirtual 203, 3, 0, []), (.lreturn, 1, 0, [])]), (56, none, [(.aload_n 0, 1, 0, []), (.getfield 48, 3, 0, []), (.invokevirtual 206, 3, 0, []), (.lreturn, 1, 0, [])]), (64, none, [(.aload_n 0, 1, 0, []), (.getfield 48, 3, 0, []), (.invokevirtual 209, 3, 0, []), (.i2l, 1, 0, []), (.lreturn, 1, 0, [])]), (73, none, [(.ldc2_w 198, 3, 0, []), (.lreturn, 1, 0, [])])]
set_option maxRecDepth 20000 in
theorem bk_X7_sleeping : zdb cX7_sleeping 2 bl_X7_sleeping = true := by decide +kernel
noncomputable def cm_X7_sleeping (ρ : Type) : List (Nat × Nat × ZCall ρ) := [(260, 2, cV g_X5_lookAt), (400, 1, cV g_X5_exploreWithSleepSets), (406, 1, cJ g_X5_sleepEnds), (412, 1, cJ g_X5_sleepCuts), (418, 1, cI g_X5_sleepDeadlocks)]
theorem lf_X7_sleeping (ρ : Type) : LfM (cm_X7_sleeping ρ) := lfm_of (lfm_cons (lfc_V g_X5_lookAt) (lfm_cons (lfc_V g_X5_exploreWithSleepSets) (lfm_cons (lfc_J g_X5_sleepEnds) (lfm_cons (lfc_J g_X5_sleepCuts) (lfm_cons (lfc_I g_X5_sleepDeadlocks) lfm_n)))))
noncomputable def x_X7_sleeping : ZJ (Int64 × Wd) := zev cF_X7 cL_X7 bl_X7_sleeping (cm_X7_sleeping (Int64 × Wd)) rJ
noncomputable def f_X7_sleeping (k0 : Nat) (x1 : Int32) (w : Wd) : Option (Int64 × Wd) := x_X7_sleeping 0 [] [some (zr 7 k0), some (zi x1)] w
noncomputable def g_X7_sleeping (r : List ZV) (w : Wd) : Option (Int64 × Wd) := pR r fun tk0 k0 r => zif (Nat.beq tk0 7) (pI r fun x1 r => pE r (f_X7_sleeping k0 x1 w))
set_option maxRecDepth 20000 in
theorem e_X7_sleeping (k0 : Nat) (x1 : Int32) (w : Wd) : f_X7_sleeping k0 x1 w = (oC (f_X5_lookAt 0 0 w) fun q1 => (oC (f_X5_exploreWithSleepSets 0 q1) fun q2 => (if x1 = (Int32.ofInt 0) then (oC (f_X5_sleepEnds 0 q2) fun q5 => (some (q5.1, q5.2))) else (if x1 = (Int32.ofInt 1) then (oC (f_X5_sleepCuts 0 q2) fun q4 => (some (q4.1, q4.2))) else (if x1 = (Int32.ofInt 2) then (oC (f_X5_sleepDeadlocks 0 q2) fun q3 => (some (q3.1.toInt64, q3.2))) else (some ((-2 : Int64), q2))))))) := (zev_eq (lf_X7_sleeping _) _ _ _ _).trans rfl
theorem k_X7_sleeping : zLkV yX7_sleeping cX7_sleeping 2 (some .long) 7 1 := ⟨(tw2 (i := 203) rfl), (tw2 (i := 204) rfl), (tw1 (i := 1) rfl), (tw2 (i := 205) rfl), ⟨_, _, rfl⟩, rfl, by decide, by decide, by decide +kernel⟩
set_option maxHeartbeats 4000000 in
set_option maxRecDepth 20000 in
theorem a_X7_sleeping {l : Launch} {D : va_G} {ad : Nat → Nat → Nat} {cA : Nat → ClassId} (hI : zInj ad) {ρ : Type} (X : ρ) : zAns l D ad cA yX7_sleeping cX7_sleeping 2 (some .long) 6 144 X (fun as => ∃ i as', as = zr 7 i :: as') (cJ g_X7_sleeping) := by
  intro as w Kf hv h
  obtain ⟨q, h1, h2⟩ := oC_inv h
  unfold g_X7_sleeping at h1
  obtain ⟨tk0, k0, r, rfl, h1_1⟩ := pR_inv h1
  obtain ⟨bk0, h1_1z⟩ := zif_inv h1_1
  cases Nat.eq_of_beq_eq_true bk0
  obtain ⟨x1, r, rfl, h1_2⟩ := pI_inv h1_1z
  obtain ⟨rfl, h3⟩ := pE_inv h1_2
  exact ⟨_, _, ⟨_, _, rfl⟩, h2, trivial, zmeth (cM := cm_X7_sleeping _) (bl := bl_X7_sleeping) (ret := rJ) hI (by decide) fl_X7 ll_X7 (lf_X7_sleeping _) bk_X7_sleeping (Nat.le_of_ble_eq_true rfl) hv (fun hF => (zml_cons (zcv hF ⟨Nat.le_refl _, Nat.le_refl _⟩ rfl (tw2 (i := 114) rfl) k_X5_lookAt ⟨by decide, by decide⟩ (a_X5_lookAt hI _)) (zml_cons (zcv hF ⟨Nat.le_refl _, Nat.le_refl _⟩ rfl (tw2 (i := 206) rfl) k_X5_exploreWithSleepSets ⟨by decide, by decide⟩ (a_X5_exploreWithSleepSets hI _)) (zml_cons (zcv hF ⟨Nat.le_refl _, Nat.le_refl _⟩ rfl (tw2 (i := 223) rfl) k_X5_sleepEnds ⟨by decide, by decide⟩ (a_X5_sleepEnds hI _)) (zml_cons (zcv hF ⟨Nat.le_refl _, Nat.le_refl _⟩ rfl (tw2 (i := 227) rfl) k_X5_sleepCuts ⟨by decide, by decide⟩ (a_X5_sleepCuts hI _)) (zml_cons (zcv hF ⟨Nat.le_refl _, Nat.le_refl _⟩ rfl (tw2 (i := 231) rfl) k_X5_sleepDeadlocks ⟨by decide, by decide⟩ (a_X5_sleepDeadlocks hI _)) zml_nil)))))) (fun hF hr hk => zrt_J hF hr hk) h3⟩
def bl_X7_wayToDeadlock : ZBl := [(0, none, [(.iload_n 1, 1, 0, []), (.iconst (-1), 1, 0, []), (.if_icmp .ge 6, 3, 8, [])]), (5, none, [(.bipush (-2), 2, 0, []), (.ireturn, 1, 0, [])]), (8, none, [(.aload_n 0, 1, 0, []), (.getfield 48, 3, 0, []), (.aload_n 0, 1, 0, []), (.getfield 19, 3, 0, []), (.getfield 97, 3, 0, []), (.invokevirtual 130, 3, 0, []), (.aload_n 0, 1, 0, []), (.getfield 48, 3, 0, []), (.invokevirtual 212, 3, 0, []), (.astore_n 2, 1, 0, []), (.iload_n 1, 1, 0, []), (.ifCond .lt 9, 3, 40, [])]), (34, none, [(.aload_n 2, 1, 0, []), (.iload_n 1, 1, 0, []), (.invokevirtual 216, 3, 0, []), (.ireturn, 1, 0, [])]), (40, none, [(.aload_n 2, 1, 0, []), (.invokevirtual 147, 3, 0, []), (.ifCond .ne 8, 3, 52, [])]), (47, none, [(.bipush (-6), 2, 0, []), (.goto 7, 3, 56, [])]), (52, none, [(.aload_n 2, 1, 0, []), (.invokevirtual 147, 3, 0, [])]), (56, none, [(.ireturn, 1, 0, [])])]
set_option maxRecDepth 20000 in
theorem bk_X7_wayToDeadlock : zdb cX7_wayToDeadlock 3 bl_X7_wayToDeadlock = true := by decide +kernel
noncomputable def cm_X7_wayToDeadlock (ρ : Type) : List (Nat × Nat × ZCall ρ) := [(260, 2, cV g_X5_lookAt), (424, 1, cR g_X5_leastShortestWay), (432, 2, cI g_X3_threadAt), (294, 1, cI g_X3_length)]
theorem lf_X7_wayToDeadlock (ρ : Type) : LfM (cm_X7_wayToDeadlock ρ) := lfm_of (lfm_cons (lfc_V g_X5_lookAt) (lfm_cons (lfc_R g_X5_leastShortestWay) (lfm_cons (lfc_I g_X3_threadAt) (lfm_cons (lfc_I g_X3_length) lfm_n))))
noncomputable def x_X7_wayToDeadlock : ZJ (Int32 × Wd) := zev cF_X7 cL_X7 bl_X7_wayToDeadlock (cm_X7_wayToDeadlock (Int32 × Wd)) rI
noncomputable def f_X7_wayToDeadlock (k0 : Nat) (x1 : Int32) (w : Wd) : Option (Int32 × Wd) := x_X7_wayToDeadlock 0 [] [some (zr 7 k0), some (zi x1), none] w
noncomputable def g_X7_wayToDeadlock (r : List ZV) (w : Wd) : Option (Int32 × Wd) := pR r fun tk0 k0 r => zif (Nat.beq tk0 7) (pI r fun x1 r => pE r (f_X7_wayToDeadlock k0 x1 w))
set_option maxRecDepth 20000 in
theorem e_X7_wayToDeadlock (k0 : Nat) (x1 : Int32) (w : Wd) : f_X7_wayToDeadlock k0 x1 w = (if (Int32.ofInt (-1)) ≤ x1 then (oC (f_X5_lookAt 0 0 w) fun q1 => (oC (f_X5_leastShortestWay 0 q1) fun q2 => (zif (Nat.blt q2.1.2 (zcnt q2.1.1)) (if x1 < 0 then (oC (zif (Nat.beq q2.1.1 3) (f_X3_length q2.1.2 q2.2)) fun q3 => (if q3.1 = 0 then (some ((Int32.ofInt (-6)), q3.2)) else (oC (zif (Nat.beq q2.1.1 3) (f_X3_length q2.1.2 q3.2)) fun q4 => (some (q4.1, q4.2))))) else (oC (zif (Nat.beq q2.1.1 3) (f_X3_threadAt q2.1.2 x1 q2.2)) fun q5 => (some (q5.1, q5.2))))))) else (some ((Int32.ofInt (-2)), w))) := (zev_eq (lf_X7_wayToDeadlock _) _ _ _ _).trans rfl
theorem k_X7_wayToDeadlock : zLkV yX7_wayToDeadlock cX7_wayToDeadlock 3 (some .int) 7 1 := ⟨(tw3 (i := 159) rfl), (tw3 (i := 160) rfl), (tw1 (i := 1) rfl), (tw3 (i := 161) rfl), ⟨_, _, rfl⟩, rfl, by decide, by decide, by decide +kernel⟩
set_option maxHeartbeats 4000000 in
set_option maxRecDepth 20000 in
theorem a_X7_wayToDeadlock {l : Launch} {D : va_G} {ad : Nat → Nat → Nat} {cA : Nat → ClassId} (hI : zInj ad) {ρ : Type} (X : ρ) : zAns l D ad cA yX7_wayToDeadlock cX7_wayToDeadlock 3 (some .int) 6 134 X (fun as => ∃ i as', as = zr 7 i :: as') (cI g_X7_wayToDeadlock) := by
  intro as w Kf hv h
  obtain ⟨q, h1, h2⟩ := oC_inv h
  unfold g_X7_wayToDeadlock at h1
  obtain ⟨tk0, k0, r, rfl, h1_1⟩ := pR_inv h1
  obtain ⟨bk0, h1_1z⟩ := zif_inv h1_1
  cases Nat.eq_of_beq_eq_true bk0
  obtain ⟨x1, r, rfl, h1_2⟩ := pI_inv h1_1z
  obtain ⟨rfl, h3⟩ := pE_inv h1_2
  exact ⟨_, _, ⟨_, _, rfl⟩, h2, trivial, zmeth (cM := cm_X7_wayToDeadlock _) (bl := bl_X7_wayToDeadlock) (ret := rI) hI (by decide) fl_X7 ll_X7 (lf_X7_wayToDeadlock _) bk_X7_wayToDeadlock (Nat.le_of_ble_eq_true rfl) hv (fun hF => (zml_cons (zcv hF ⟨Nat.le_refl _, Nat.le_refl _⟩ rfl (tw2 (i := 114) rfl) k_X5_lookAt ⟨by decide, by decide⟩ (a_X5_lookAt hI _)) (zml_cons (zcv hF ⟨Nat.le_refl _, Nat.le_refl _⟩ rfl (tw3 (i := 162) rfl) k_X5_leastShortestWay ⟨by decide, by decide⟩ (a_X5_leastShortestWay hI _)) (zml_cons (zcv hF ⟨Nat.le_refl _, Nat.le_refl _⟩ rfl (tw3 (i := 181) rfl) k_X3_threadAt ⟨by decide, by decide⟩ (a_X3_threadAt hI _)) (zml_cons (zcv hF ⟨Nat.le_refl _, Nat.le_refl _⟩ rfl (tw2 (i := 93) rfl) k_X3_length ⟨by decide, by decide⟩ (a_X3_length hI _)) zml_nil))))) (fun hF hr hk => zrt_I hF hr hk) h3⟩
def bl_X7_isName : ZBl := [(0, none, [(.iload_n 0, 1, 0, []), (.ifCond .lt 12, 3, 13, [])]), (4, none, [(.iload_n 0, 1, 0, []), (.iconst 4, 1, 0, []), (.if_icmp .ge 7, 3, 13, [])]), (9, none, [(.iconst 1, 1, 0, []), (.goto 4, 3, 14, [])]), (13, none, [(.iconst 0, 1, 0, [])]), (14, none, [(.ireturn, 1, 0, [])])]
set_option maxRecDepth 20000 in
theorem bk_X7_isName : zdb cX7_isName 1 bl_X7_isName = true := by decide +kernel
noncomputable def cm_X7_isName (ρ : Type) : List (Nat × Nat × ZCall ρ) := []
theorem lf_X7_isName (ρ : Type) : LfM (cm_X7_isName ρ) := lfm_of lfm_n
noncomputable def x_X7_isName : ZJ (Int32 × Wd) := zev cF_X7 cL_X7 bl_X7_isName (cm_X7_isName (Int32 × Wd)) rZ
noncomputable def f_X7_isName (x0 : Int32) (w : Wd) : Option (Int32 × Wd) := x_X7_isName 0 [] [some (zi x0)] w
noncomputable def g_X7_isName (r : List ZV) (w : Wd) : Option (Int32 × Wd) := pI r fun x0 r => pE r (f_X7_isName x0 w)
set_option maxRecDepth 20000 in
theorem e_X7_isName (x0 : Int32) (w : Wd) : f_X7_isName x0 w = (if x0 < 0 then (zb (Int32.ofInt 0) (some ((Int32.ofInt 0), w))) else (if (Int32.ofInt 4) ≤ x0 then (zb (Int32.ofInt 0) (some ((Int32.ofInt 0), w))) else (zb (Int32.ofInt 1) (some ((Int32.ofInt 1), w))))) := (zev_eq (lf_X7_isName _) _ _ _ _).trans rfl
theorem k_X7_isName : zLkS yX7_isName cX7_isName 1 (some .boolean) 1 := ⟨(tw3 (i := 187) rfl), (tw1 (i := 1) rfl), (tw3 (i := 188) rfl), by decide, by decide, by decide +kernel⟩
set_option maxHeartbeats 4000000 in
set_option maxRecDepth 20000 in
theorem a_X7_isName {l : Launch} {D : va_G} {ad : Nat → Nat → Nat} {cA : Nat → ClassId} (hI : zInj ad) {ρ : Type} (X : ρ) : zAns l D ad cA yX7_isName cX7_isName 1 (some .boolean) 0 0 X (fun _ => True) (cI g_X7_isName) := by
  intro as w Kf hv h
  obtain ⟨q, h1, h2⟩ := oC_inv h
  unfold g_X7_isName at h1
  obtain ⟨x0, r, rfl, h1_1⟩ := pI_inv h1
  obtain ⟨rfl, h3⟩ := pE_inv h1_1
  exact ⟨_, _, trivial, h2, trivial, zmeth (cM := cm_X7_isName _) (bl := bl_X7_isName) (ret := rZ) hI (by decide) fl_X7 ll_X7 (lf_X7_isName _) bk_X7_isName (Nat.le_of_ble_eq_true rfl) hv (fun hF => zml_nil) (fun hF hr hk => zrt_Z hF hr hk) h3⟩
def bl_X7_without : ZBl := [(0, none, [(.iload_n 1, 1, 0, []), (.invokestatic 219, 3, 0, []), (.ifCond .ne 5, 3, 9, [])]), (7, none, [(.iconst (-1), 1, 0, []), (.ireturn, 1, 0, [])]), (9, none, [(.aload_n 0, 1, 0, []), (.getfield 41, 3, 0, []), (.aload_n 0, 1, 0, []), (.getfield 19, 3, 0, []), (.getfield 97, 3, 0, []), (.iload_n 1, 1, 0, []), (.invokevirtual 222, 3, 0, []), (.aload_n 0, 1, 0, []), (.getfield 48, 3, 0, []), (.aload_n 0, 1, 0, []), (.getfield 41, 3, 0, []), (.invokevirtual 130, 3, 0, []), (.aload_n 0, 1, 0, []), (.getfield 48, 3, 0, []), (.invokevirtual 173, 3, 0, []), (.ireturn, 1, 0, [])])]
set_option maxRecDepth 20000 in
theorem bk_X7_without : zdb cX7_without 2 bl_X7_without = true := by decide +kernel
noncomputable def cm_X7_without (ρ : Type) : List (Nat × Nat × ZCall ρ) := [(439, 1, cI g_X7_isName), (444, 3, cV g_X2_copyWithoutLock), (260, 2, cV g_X5_lookAt), (346, 1, cI g_X5_deadlocks)]
theorem lf_X7_without (ρ : Type) : LfM (cm_X7_without ρ) := lfm_of (lfm_cons (lfc_I g_X7_isName) (lfm_cons (lfc_V g_X2_copyWithoutLock) (lfm_cons (lfc_V g_X5_lookAt) (lfm_cons (lfc_I g_X5_deadlocks) lfm_n))))
noncomputable def x_X7_without : ZJ (Int32 × Wd) := zev cF_X7 cL_X7 bl_X7_without (cm_X7_without (Int32 × Wd)) rI
noncomputable def f_X7_without (k0 : Nat) (x1 : Int32) (w : Wd) : Option (Int32 × Wd) := x_X7_without 0 [] [some (zr 7 k0), some (zi x1)] w
noncomputable def g_X7_without (r : List ZV) (w : Wd) : Option (Int32 × Wd) := pR r fun tk0 k0 r => zif (Nat.beq tk0 7) (pI r fun x1 r => pE r (f_X7_without k0 x1 w))
set_option maxRecDepth 20000 in
theorem e_X7_without (k0 : Nat) (x1 : Int32) (w : Wd) : f_X7_without k0 x1 w = (oC (f_X7_isName x1 w) fun q1 => (if q1.1 = 0 then (some ((Int32.ofInt (-1)), q1.2)) else (oC (f_X2_copyWithoutLock 9 0 x1 q1.2) fun q2 => (oC (f_X5_lookAt 0 9 q2) fun q3 => (oC (f_X5_deadlocks 0 q3) fun q4 => (some (q4.1, q4.2))))))) := (zev_eq (lf_X7_without _) _ _ _ _).trans rfl
theorem k_X7_without : zLkV yX7_without cX7_without 2 (some .int) 7 1 := ⟨(tw3 (i := 183) rfl), (tw3 (i := 184) rfl), (tw1 (i := 1) rfl), (tw3 (i := 185) rfl), ⟨_, _, rfl⟩, rfl, by decide, by decide, by decide +kernel⟩
set_option maxHeartbeats 4000000 in
set_option maxRecDepth 20000 in
theorem a_X7_without {l : Launch} {D : va_G} {ad : Nat → Nat → Nat} {cA : Nat → ClassId} (hI : zInj ad) {ρ : Type} (X : ρ) : zAns l D ad cA yX7_without cX7_without 2 (some .int) 5 114 X (fun as => ∃ i as', as = zr 7 i :: as') (cI g_X7_without) := by
  intro as w Kf hv h
  obtain ⟨q, h1, h2⟩ := oC_inv h
  unfold g_X7_without at h1
  obtain ⟨tk0, k0, r, rfl, h1_1⟩ := pR_inv h1
  obtain ⟨bk0, h1_1z⟩ := zif_inv h1_1
  cases Nat.eq_of_beq_eq_true bk0
  obtain ⟨x1, r, rfl, h1_2⟩ := pI_inv h1_1z
  obtain ⟨rfl, h3⟩ := pE_inv h1_2
  exact ⟨_, _, ⟨_, _, rfl⟩, h2, trivial, zmeth (cM := cm_X7_without _) (bl := bl_X7_without) (ret := rI) hI (by decide) fl_X7 ll_X7 (lf_X7_without _) bk_X7_without (Nat.le_of_ble_eq_true rfl) hv (fun hF => (zml_cons (zcs hF ⟨Nat.le_refl _, Nat.le_refl _⟩ rfl (tw3 (i := 186) rfl) k_X7_isName ⟨by decide, by decide⟩ (a_X7_isName hI _)) (zml_cons (zcv hF ⟨Nat.le_refl _, Nat.le_refl _⟩ rfl (tw3 (i := 189) rfl) k_X2_copyWithoutLock ⟨by decide, by decide⟩ (a_X2_copyWithoutLock hI _)) (zml_cons (zcv hF ⟨Nat.le_refl _, Nat.le_refl _⟩ rfl (tw2 (i := 114) rfl) k_X5_lookAt ⟨by decide, by decide⟩ (a_X5_lookAt hI _)) (zml_cons (zcv hF ⟨Nat.le_refl _, Nat.le_refl _⟩ rfl (tw2 (i := 177) rfl) k_X5_deadlocks ⟨by decide, by decide⟩ (a_X5_deadlocks hI _)) zml_nil))))) (fun hF hr hk => zrt_I hF hr hk) h3⟩
def bl_X7_least : ZBl := [(0, none, [(.iload_n 1, 1, 0, []), (.ifCond .ge 6, 3, 7, [])]), (4, none, [(.bipush (-2), 2, 0, []), (.ireturn, 1, 0, [])]), (7, none, [(.aload_n 0, 1, 0, []), (.getfield 55, 3, 0, []), (.aload_n 0, 1, 0, []), (.getfield 19, 3, 0, []), (.getfield 97, 3, 0, []), (.aload_n 0, 1, 0, []), (.getfield 19, 3, 0, []), (.getfield 141, 3, 0, []), (.invokevirtual 226, 3, 0, []), (.aload_n 0, 1, 0, []), (.getfield 55, 3, 0, []), (.aload_n 0, 1, 0, []), (.getfield 66, 3, 0, []), (.invokevirtual 229, 3, 0, []), (.aload_n 0, 1, 0, []), (.getfield 66, 3, 0, []), (.iload_n 1, 1, 0, []), (.invokevirtual 216, 3, 0, []), (.ireturn, 1, 0, [])])]
set_option maxRecDepth 20000 in
theorem bk_X7_least : zdb cX7_least 2 bl_X7_least = true := by decide +kernel
noncomputable def cm_X7_least (ρ : Type) : List (Nat × Nat × ZCall ρ) := [(452, 3, cV g_X4_lookAt), (458, 2, cV g_X4_writeLeast), (432, 2, cI g_X3_threadAt)]
theorem lf_X7_least (ρ : Type) : LfM (cm_X7_least ρ) := lfm_of (lfm_cons (lfc_V g_X4_lookAt) (lfm_cons (lfc_V g_X4_writeLeast) (lfm_cons (lfc_I g_X3_threadAt) lfm_n)))
noncomputable def x_X7_least : ZJ (Int32 × Wd) := zev cF_X7 cL_X7 bl_X7_least (cm_X7_least (Int32 × Wd)) rI
noncomputable def f_X7_least (k0 : Nat) (x1 : Int32) (w : Wd) : Option (Int32 × Wd) := x_X7_least 0 [] [some (zr 7 k0), some (zi x1)] w
noncomputable def g_X7_least (r : List ZV) (w : Wd) : Option (Int32 × Wd) := pR r fun tk0 k0 r => zif (Nat.beq tk0 7) (pI r fun x1 r => pE r (f_X7_least k0 x1 w))
set_option maxRecDepth 20000 in
theorem e_X7_least (k0 : Nat) (x1 : Int32) (w : Wd) : f_X7_least k0 x1 w = (if 0 ≤ x1 then (oC (f_X4_lookAt 0 0 0 w) fun q1 => (oC (f_X4_writeLeast 0 10 q1) fun q2 => (oC (f_X3_threadAt 10 x1 q2) fun q3 => (some (q3.1, q3.2))))) else (some ((Int32.ofInt (-2)), w))) := (zev_eq (lf_X7_least _) _ _ _ _).trans rfl
theorem k_X7_least : zLkV yX7_least cX7_least 2 (some .int) 7 1 := ⟨(tw3 (i := 213) rfl), (tw3 (i := 214) rfl), (tw1 (i := 1) rfl), (tw3 (i := 215) rfl), ⟨_, _, rfl⟩, rfl, by decide, by decide, by decide +kernel⟩
set_option maxHeartbeats 4000000 in
set_option maxRecDepth 20000 in
theorem a_X7_least {l : Launch} {D : va_G} {ad : Nat → Nat → Nat} {cA : Nat → ClassId} (hI : zInj ad) {ρ : Type} (X : ρ) : zAns l D ad cA yX7_least cX7_least 2 (some .int) 5 118 X (fun as => ∃ i as', as = zr 7 i :: as') (cI g_X7_least) := by
  intro as w Kf hv h
  obtain ⟨q, h1, h2⟩ := oC_inv h
  unfold g_X7_least at h1
  obtain ⟨tk0, k0, r, rfl, h1_1⟩ := pR_inv h1
  obtain ⟨bk0, h1_1z⟩ := zif_inv h1_1
  cases Nat.eq_of_beq_eq_true bk0
  obtain ⟨x1, r, rfl, h1_2⟩ := pI_inv h1_1z
  obtain ⟨rfl, h3⟩ := pE_inv h1_2
  exact ⟨_, _, ⟨_, _, rfl⟩, h2, trivial, zmeth (cM := cm_X7_least _) (bl := bl_X7_least) (ret := rI) hI (by decide) fl_X7 ll_X7 (lf_X7_least _) bk_X7_least (Nat.le_of_ble_eq_true rfl) hv (fun hF => (zml_cons (zcv hF ⟨Nat.le_refl _, Nat.le_refl _⟩ rfl (tw3 (i := 19) rfl) k_X4_lookAt ⟨by decide, by decide⟩ (a_X4_lookAt hI _)) (zml_cons (zcv hF ⟨Nat.le_refl _, Nat.le_refl _⟩ rfl (tw3 (i := 41) rfl) k_X4_writeLeast ⟨by decide, by decide⟩ (a_X4_writeLeast hI _)) (zml_cons (zcv hF ⟨Nat.le_refl _, Nat.le_refl _⟩ rfl (tw3 (i := 181) rfl) k_X3_threadAt ⟨by decide, by decide⟩ (a_X3_threadAt hI _)) zml_nil)))) (fun hF hr hk => zrt_I hF hr hk) h3⟩
def bl_X7_alike : ZBl := [(0, none, [(.aload_n 0, 1, 0, []), (.getfield 12, 3, 0, []), (.invokevirtual 90, 3, 0, []), (.bipush (-6), 2, 0, []), (.if_icmp .eq 6, 3, 15, [])]), (12, none, [(.bipush (-3), 2, 0, []), (.ireturn, 1, 0, [])]), (15, none, [(.aload_n 0, 1, 0, []), (.getfield 62, 3, 0, []), (.aload_n 0, 1, 0, []), (.getfield 12, 3, 0, []), (.invokevirtual 126, 3, 0, []), (.aload_n 0, 1, 0, []), (.getfield 48, 3, 0, []), (.aload_n 0, 1, 0, []), (.getfield 19, 3, 0, []), (.getfield 97, 3, 0, []), (.invokevirtual 130, 3, 0, []), (.aload_n 0, 1, 0, []), (.getfield 48, 3, 0, []), (.aload_n 0, 1, 0, []), (.getfield 62, 3, 0, []), (.invokevirtual 133, 3, 0, []), (.ifCond .ne 5, 3, 56, [])]), (54, none, [(.iconst 0, 1, 0, []), (.ireturn, 1, 0, [])]), (56, none, [(.aload_n 0, 1, 0, []), (.getfield 55, 3, 0, []), (.aload_n 0, 1, 0, []), (.getfield 19, 3, 0, []), (.getfield 97, 3, 0, []), (.aload_n 0, 1, 0, []), (.getfield 62, 3, 0, []), (.invokevirtual 226, 3, 0, []), (.aload_n 0, 1, 0, []), (.getfield 55, 3, 0, []), (.aload_n 0, 1, 0, []), (.getfield 69, 3, 0, []), (.invokevirtual 229, 3, 0, []), (.aload_n 0, 1, 0, []), (.getfield 55, 3, 0, []), (.aload_n 0, 1, 0, []), (.getfield 19, 3, 0, []), (.getfield 97, 3, 0, []), (.aload_n 0, 1, 0, []), (.getfield 19, 3, 0, []), (.getfield 141, 3, 0, []), (.invokevirtual 226, 3, 0, []), (.aload_n 0, 1, 0, []), (.getfield 55, 3, 0, []), (.aload_n 0, 1, 0, []), (.getfield 66, 3, 0, []), (.invokevirtual 229, 3, 0, []), (.aload_n 0, 1, 0, []), (.getfield 66, 3, 0, []), (.aload_n 0, 1, 0, []), (.getfield 69, 3, 0, []), (.invokevirtual 232, 3, 0, []), (.ifCond .eq 7, 3, 135, [])]), (131, none, [(.iconst 1, 1, 0, []), (.goto 4, 3, 136, [])]), (135, none, [(.iconst 0, 1, 0, [])]), (136, none, [(.ireturn, 1, 0, [])])]
set_option maxRecDepth 20000 in
theorem bk_X7_alike : zdb cX7_alike 1 bl_X7_alike = true := by decide +kernel
noncomputable def cm_X7_alike (ρ : Type) : List (Nat × Nat × ZCall ρ) := [(180, 1, cI g_X1_faultAsRun), (252, 2, cV g_X3_readRun), (260, 2, cV g_X5_lookAt), (266, 2, cI g_X5_canRun), (452, 3, cV g_X4_lookAt), (458, 2, cV g_X4_writeLeast), (464, 2, cI g_X3_sameAs)]
theorem lf_X7_alike (ρ : Type) : LfM (cm_X7_alike ρ) := lfm_of (lfm_cons (lfc_I g_X1_faultAsRun) (lfm_cons (lfc_V g_X3_readRun) (lfm_cons (lfc_V g_X5_lookAt) (lfm_cons (lfc_I g_X5_canRun) (lfm_cons (lfc_V g_X4_lookAt) (lfm_cons (lfc_V g_X4_writeLeast) (lfm_cons (lfc_I g_X3_sameAs) lfm_n)))))))
noncomputable def x_X7_alike : ZJ (Int32 × Wd) := zev cF_X7 cL_X7 bl_X7_alike (cm_X7_alike (Int32 × Wd)) rI
noncomputable def f_X7_alike (k0 : Nat) (w : Wd) : Option (Int32 × Wd) := x_X7_alike 0 [] [some (zr 7 k0)] w
noncomputable def g_X7_alike (r : List ZV) (w : Wd) : Option (Int32 × Wd) := pR r fun tk0 k0 r => zif (Nat.beq tk0 7) (pE r (f_X7_alike k0 w))
set_option maxRecDepth 20000 in
theorem e_X7_alike (k0 : Nat) (w : Wd) : f_X7_alike k0 w = (oC (f_X1_faultAsRun 0 w) fun q1 => (if q1.1 = (Int32.ofInt (-6)) then (oC (f_X3_readRun 9 0 q1.2) fun q2 => (oC (f_X5_lookAt 0 0 q2) fun q3 => (oC (f_X5_canRun 0 9 q3) fun q4 => (if q4.1 = 0 then (some ((Int32.ofInt 0), q4.2)) else (oC (f_X4_lookAt 0 0 9 q4.2) fun q5 => (oC (f_X4_writeLeast 0 11 q5) fun q6 => (oC (f_X4_lookAt 0 0 0 q6) fun q7 => (oC (f_X4_writeLeast 0 10 q7) fun q8 => (oC (f_X3_sameAs 10 11 q8) fun q9 => (if q9.1 = 0 then (some ((Int32.ofInt 0), q9.2)) else (some ((Int32.ofInt 1), q9.2)))))))))))) else (some ((Int32.ofInt (-3)), q1.2)))) := (zev_eq (lf_X7_alike _) _ _ _ _).trans rfl
theorem k_X7_alike : zLkV yX7_alike cX7_alike 1 (some .int) 7 0 := ⟨(tw2 (i := 236) rfl), (tw2 (i := 237) rfl), (tw1 (i := 1) rfl), (tw2 (i := 238) rfl), ⟨_, _, rfl⟩, rfl, by decide, by decide, by decide +kernel⟩
set_option maxHeartbeats 4000000 in
set_option maxRecDepth 20000 in
theorem a_X7_alike {l : Launch} {D : va_G} {ad : Nat → Nat → Nat} {cA : Nat → ClassId} (hI : zInj ad) {ρ : Type} (X : ρ) : zAns l D ad cA yX7_alike cX7_alike 1 (some .int) 5 118 X (fun as => ∃ i as', as = zr 7 i :: as') (cI g_X7_alike) := by
  intro as w Kf hv h
  obtain ⟨q, h1, h2⟩ := oC_inv h
  unfold g_X7_alike at h1
  obtain ⟨tk0, k0, r, rfl, h1_1⟩ := pR_inv h1
  obtain ⟨bk0, h1_1z⟩ := zif_inv h1_1
  cases Nat.eq_of_beq_eq_true bk0
  obtain ⟨rfl, h3⟩ := pE_inv h1_1z
  exact ⟨_, _, ⟨_, _, rfl⟩, h2, trivial, zmeth (cM := cm_X7_alike _) (bl := bl_X7_alike) (ret := rI) hI (by decide) fl_X7 ll_X7 (lf_X7_alike _) bk_X7_alike (Nat.le_of_ble_eq_true rfl) hv (fun hF => (zml_cons (zcv hF ⟨Nat.le_refl _, Nat.le_refl _⟩ rfl (tw1 (i := 227) rfl) k_X1_faultAsRun ⟨by decide, by decide⟩ (a_X1_faultAsRun hI _)) (zml_cons (zcv hF ⟨Nat.le_refl _, Nat.le_refl _⟩ rfl (tw2 (i := 239) rfl) k_X3_readRun ⟨by decide, by decide⟩ (a_X3_readRun hI _)) (zml_cons (zcv hF ⟨Nat.le_refl _, Nat.le_refl _⟩ rfl (tw2 (i := 114) rfl) k_X5_lookAt ⟨by decide, by decide⟩ (a_X5_lookAt hI _)) (zml_cons (zcv hF ⟨Nat.le_refl _, Nat.le_refl _⟩ rfl (tw3 (i := 10) rfl) k_X5_canRun ⟨by decide, by decide⟩ (a_X5_canRun hI _)) (zml_cons (zcv hF ⟨Nat.le_refl _, Nat.le_refl _⟩ rfl (tw3 (i := 19) rfl) k_X4_lookAt ⟨by decide, by decide⟩ (a_X4_lookAt hI _)) (zml_cons (zcv hF ⟨Nat.le_refl _, Nat.le_refl _⟩ rfl (tw3 (i := 41) rfl) k_X4_writeLeast ⟨by decide, by decide⟩ (a_X4_writeLeast hI _)) (zml_cons (zcv hF ⟨Nat.le_refl _, Nat.le_refl _⟩ rfl (tw3 (i := 56) rfl) k_X3_sameAs ⟨by decide, by decide⟩ (a_X3_sameAs hI _)) zml_nil)))))))) (fun hF hr hk => zrt_I hF hr hk) h3⟩
