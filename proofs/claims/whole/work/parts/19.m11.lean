def bl_X8_chain : ZBl := [(0, none, [(.aload_n 0, 1, 0, []), (.invokevirtual 179, 3, 0, []), (.iconst 0, 1, 0, []), (.istore_n 1, 1, 0, []), (.iconst 0, 1, 0, []), (.istore_n 2, 1, 0, [])]), (8, some [true, true, true, false], [(.iload_n 2, 1, 0, []), (.aload_n 0, 1, 0, []), (.getfield 163, 3, 0, []), (.if_icmp .ge 99, 3, 112, [])]), (16, none, [(.aload_n 0, 1, 0, []), (.getfield 48, 3, 0, []), (.iload_n 2, 1, 0, []), (.iconst 1, 1, 0, []), (.iastore, 1, 0, []), (.iconst 0, 1, 0, []), (.istore_n 3, 1, 0, [])]), (25, some [true, true, true, true], [(.iload_n 3, 1, 0, []), (.iload_n 2, 1, 0, []), (.if_icmp .ge 58, 3, 85, [])]), (30, none, [(.aload_n 0, 1, 0, []), (.getfield 48, 3, 0, []), (.iload_n 2, 1, 0, []), (.aload_n 0, 1, 0, []), (.iload_n 3, 1, 0, []), (.iload_n 2, 1, 0, []), (.invokevirtual 170, 3, 0, []), (.ifCond .eq 31, 3, 72, [])]), (44, none, [(.aload_n 0, 1, 0, []), (.getfield 48, 3, 0, []), (.iload_n 3, 1, 0, []), (.iaload, 1, 0, []), (.iconst 1, 1, 0, []), (.iadd, 1, 0, []), (.aload_n 0, 1, 0, []), (.getfield 48, 3, 0, []), (.iload_n 2, 1, 0, []), (.iaload, 1, 0, []), (.if_icmp .le 14, 3, 72, [])]), (61, none, [(.aload_n 0, 1, 0, []), (.getfield 48, 3, 0, []), (.iload_n 3, 1, 0, []), (.iaload, 1, 0, []), (.iconst 1, 1, 0, []), (.iadd, 1, 0, []), (.goto 9, 3, 78, [])]), (72, none, [(.aload_n 0, 1, 0, []), (.getfield 48, 3, 0, []), (.iload_n 2, 1, 0, []), (.iaload, 1, 0, [])]), (78, none, [(.iastore, 1, 0, []), (.iinc 3 1, 3, 0, []), (.goto (-57), 3, 25, [])]), (85, none, [(.aload_n 0, 1, 0, []), (.getfield 48, 3, 0, []), (.iload_n 2, 1, 0, []), (.iaload, 1, 0, []), (.iload_n 1, 1, 0, []), (.if_icmp .le 12, 3, 104, [])]), (95, none, [(.aload_n 0, 1, 0, []), (.getfield 48, 3, 0, []), (.iload_n 2, 1, 0, []), (.iaload, 1, 0, []), (.goto 4, 3, 105, [])]), (104, none, [(.iload_n 1, 1, 0, [])]), (105, none, [(.istore_n 1, 1, 0, []), (.iinc 2 1, 3, 0, []), (.goto (-101), 3, 8, [])]), (112, none, [(.iload_n 1, 1, 0, []), (.ireturn, 1, 0, [])])]
set_option maxRecDepth 20000 in
theorem bk_X8_chain : zdb cX8_chain 4 bl_X8_chain = true := by decide +kernel
noncomputable def cm_X8_chain (ρ : Type) : List (Nat × Nat × ZCall ρ) := [(358, 1, cV g_X8_takesKept), (340, 3, cI g_X8_isTied)]
theorem lf_X8_chain (ρ : Type) : LfM (cm_X8_chain ρ) := lfm_of (lfm_cons (lfc_V g_X8_takesKept) (lfm_cons (lfc_I g_X8_isTied) lfm_n))
noncomputable def x_X8_chain : ZJ (Int32 × Wd) := zev cF_X8 cL_X8 bl_X8_chain (cm_X8_chain (Int32 × Wd)) rI
noncomputable def f_X8_chain (k0 : Nat) (w : Wd) : Option (Int32 × Wd) := x_X8_chain 0 [] [some (zr 8 k0), none, none, none] w
noncomputable def g_X8_chain (r : List ZV) (w : Wd) : Option (Int32 × Wd) := pR r fun tk0 k0 r => zif (Nat.beq tk0 8) (pE r (f_X8_chain k0 w))
set_option maxRecDepth 20000 in
theorem e_X8_chain (k0 : Nat) (w : Wd) : f_X8_chain k0 w = (oC (f_X8_takesKept k0 w) fun q1 => (x_X8_chain 8 [] [some (zr 8 k0), some (zi (Int32.ofInt 0)), some (zi (Int32.ofInt 0)), none] q1)) := (zev_eq (lf_X8_chain _) _ _ _ _).trans rfl
set_option maxRecDepth 20000 in
theorem e_X8_chain_8 (k0 : Nat) (x1 : Int32) (x2 : Int32) (w : Wd) : x_X8_chain 8 [] [some (zr 8 k0), some (zi x1), some (zi x2), none] w = (if (w.1 8 k0 18) ≤ x2 then (some (x1, w)) else (chk x2 24 (x_X8_chain 25 [] [some (zr 8 k0), some (zi x1), some (zi x2), some (zi (Int32.ofInt 0))] (wI w 39 0 x2.toNatClampNeg (Int32.ofInt 1))))) := (zev_eq (lf_X8_chain _) _ _ _ _).trans rfl
set_option maxRecDepth 20000 in
theorem e_X8_chain_25 (k0 : Nat) (x1 : Int32) (x2 : Int32) (x3 : Int32) (w : Wd) : x_X8_chain 25 [] [some (zr 8 k0), some (zi x1), some (zi x2), some (zi x3)] w = (if x2 ≤ x3 then (chk x2 24 (if (w.1 39 0 x2.toNatClampNeg) ≤ x1 then (x_X8_chain 8 [] [some (zr 8 k0), some (zi x1), some (zi (x2 + (Int32.ofInt 1))), none] w) else (chk x2 24 (x_X8_chain 8 [] [some (zr 8 k0), some (zi (w.1 39 0 x2.toNatClampNeg)), some (zi (x2 + (Int32.ofInt 1))), none] w)))) else (oC (f_X8_isTied k0 x3 x2 w) fun q1 => (if q1.1 = 0 then (chk x2 24 (chk x2 24 (x_X8_chain 25 [] [some (zr 8 k0), some (zi x1), some (zi x2), some (zi (x3 + (Int32.ofInt 1)))] (wI q1.2 39 0 x2.toNatClampNeg (q1.2.1 39 0 x2.toNatClampNeg))))) else (chk x3 24 (chk x2 24 (if ((q1.2.1 39 0 x3.toNatClampNeg) + (Int32.ofInt 1)) ≤ (q1.2.1 39 0 x2.toNatClampNeg) then (chk x2 24 (chk x2 24 (x_X8_chain 25 [] [some (zr 8 k0), some (zi x1), some (zi x2), some (zi (x3 + (Int32.ofInt 1)))] (wI q1.2 39 0 x2.toNatClampNeg (q1.2.1 39 0 x2.toNatClampNeg))))) else (chk x3 24 (chk x2 24 (x_X8_chain 25 [] [some (zr 8 k0), some (zi x1), some (zi x2), some (zi (x3 + (Int32.ofInt 1)))] (wI q1.2 39 0 x2.toNatClampNeg ((q1.2.1 39 0 x3.toNatClampNeg) + (Int32.ofInt 1)))))))))))) := (zev_eq (lf_X8_chain _) _ _ _ _).trans rfl
theorem k_X8_chain : zLkV yX8_chain cX8_chain 4 (some .int) 8 0 := ⟨(tw4 (i := 205) rfl), (tw4 (i := 206) rfl), (tw1 (i := 9) rfl), (tw4 (i := 207) rfl), ⟨_, _, rfl⟩, rfl, by decide, by decide, by decide +kernel⟩
set_option maxHeartbeats 4000000 in
set_option maxRecDepth 20000 in
theorem a_X8_chain {l : Launch} {D : va_G} {ad : Nat → Nat → Nat} {cA : Nat → ClassId} (hI : zInj ad) {ρ : Type} (X : ρ) : zAns l D ad cA yX8_chain cX8_chain 4 (some .int) 6 131 X (fun as => ∃ i as', as = zr 8 i :: as') (cI g_X8_chain) := by
  intro as w Kf hv h
  obtain ⟨q, h1, h2⟩ := oC_inv h
  unfold g_X8_chain at h1
  obtain ⟨tk0, k0, r, rfl, h1_1⟩ := pR_inv h1
  obtain ⟨bk0, h1_1z⟩ := zif_inv h1_1
  cases Nat.eq_of_beq_eq_true bk0
  obtain ⟨rfl, h3⟩ := pE_inv h1_1z
  exact ⟨_, _, ⟨_, _, rfl⟩, h2, trivial, zmeth (cM := cm_X8_chain _) (bl := bl_X8_chain) (ret := rI) hI (by decide) fl_X8 ll_X8 (lf_X8_chain _) bk_X8_chain (Nat.le_of_ble_eq_true rfl) hv (fun hF => (zml_cons (zcv hF ⟨Nat.le_refl _, Nat.le_refl _⟩ rfl (tw4 (i := 184) rfl) k_X8_takesKept ⟨by decide, by decide⟩ (a_X8_takesKept hI _)) (zml_cons (zcv hF ⟨Nat.le_refl _, Nat.le_refl _⟩ rfl (tw4 (i := 196) rfl) k_X8_isTied ⟨by decide, by decide⟩ (a_X8_isTied hI _)) zml_nil))) (fun hF hr hk => zrt_I hF hr hk) h3⟩
def bl_X8_lastWrite : ZBl := [(0, none, [(.iload_n 1, 1, 0, []), (.iconst 0, 1, 0, []), (.iconst 3, 1, 0, []), (.invokestatic 65, 3, 0, []), (.ifCond .ne 5, 3, 11, [])]), (9, none, [(.iconst (-1), 1, 0, []), (.ireturn, 1, 0, [])]), (11, none, [(.iload_n 2, 1, 0, []), (.iconst 0, 1, 0, []), (.iconst 1, 1, 0, []), (.invokestatic 65, 3, 0, []), (.ifCond .ne 6, 3, 23, [])]), (20, none, [(.bipush (-2), 2, 0, []), (.ireturn, 1, 0, [])]), (23, none, [(.aload_n 0, 1, 0, []), (.invokevirtual 179, 3, 0, []), (.bipush (-6), 2, 0, []), (.istore_n 3, 1, 0, []), (.iconst 0, 1, 0, []), (.istore 4, 2, 0, [])]), (33, some [true, true, true, true, true], [(.iload 4, 2, 0, []), (.aload_n 0, 1, 0, []), (.getfield 163, 3, 0, []), (.if_icmp .ge 40, 3, 79, [])]), (42, none, [(.aload_n 0, 1, 0, []), (.aload_n 0, 1, 0, []), (.getfield 42, 3, 0, []), (.iload 4, 2, 0, []), (.iaload, 1, 0, []), (.aload_n 0, 1, 0, []), (.getfield 45, 3, 0, []), (.iload 4, 2, 0, []), (.iaload, 1, 0, []), (.invokevirtual 81, 3, 0, []), (.iconst 4, 1, 0, []), (.iload_n 1, 1, 0, []), (.iadd, 1, 0, []), (.if_icmp .ne 8, 3, 71, [])]), (66, none, [(.iload 4, 2, 0, []), (.goto 4, 3, 72, [])]), (71, none, [(.iload_n 3, 1, 0, [])]), (72, none, [(.istore_n 3, 1, 0, []), (.iinc 4 1, 3, 0, []), (.goto (-43), 3, 33, [])]), (79, none, [(.iload_n 3, 1, 0, []), (.bipush (-6), 2, 0, []), (.if_icmp .ne 8, 3, 90, [])]), (85, none, [(.bipush (-6), 2, 0, []), (.goto 22, 3, 109, [])]), (90, none, [(.iload_n 2, 1, 0, []), (.ifCond .ne 12, 3, 103, [])]), (94, none, [(.aload_n 0, 1, 0, []), (.getfield 42, 3, 0, []), (.iload_n 3, 1, 0, []), (.iaload, 1, 0, []), (.goto 9, 3, 109, [])]), (103, none, [(.aload_n 0, 1, 0, []), (.getfield 45, 3, 0, []), (.iload_n 3, 1, 0, []), (.iaload, 1, 0, [])]), (109, none, [(.ireturn, 1, 0, [])])]
set_option maxRecDepth 20000 in
theorem bk_X8_lastWrite : zdb cX8_lastWrite 5 bl_X8_lastWrite = true := by decide +kernel
noncomputable def cm_X8_lastWrite (ρ : Type) : List (Nat × Nat × ZCall ρ) := [(131, 3, cI g_X8_in), (358, 1, cV g_X8_takesKept), (162, 3, cI g_X8_step)]
theorem lf_X8_lastWrite (ρ : Type) : LfM (cm_X8_lastWrite ρ) := lfm_of (lfm_cons (lfc_I g_X8_in) (lfm_cons (lfc_V g_X8_takesKept) (lfm_cons (lfc_I g_X8_step) lfm_n)))
noncomputable def x_X8_lastWrite : ZJ (Int32 × Wd) := zev cF_X8 cL_X8 bl_X8_lastWrite (cm_X8_lastWrite (Int32 × Wd)) rI
noncomputable def f_X8_lastWrite (k0 : Nat) (x1 : Int32) (x2 : Int32) (w : Wd) : Option (Int32 × Wd) := x_X8_lastWrite 0 [] [some (zr 8 k0), some (zi x1), some (zi x2), none, none] w
noncomputable def g_X8_lastWrite (r : List ZV) (w : Wd) : Option (Int32 × Wd) := pR r fun tk0 k0 r => zif (Nat.beq tk0 8) (pI r fun x1 r => pI r fun x2 r => pE r (f_X8_lastWrite k0 x1 x2 w))
set_option maxRecDepth 20000 in
theorem e_X8_lastWrite (k0 : Nat) (x1 : Int32) (x2 : Int32) (w : Wd) : f_X8_lastWrite k0 x1 x2 w = (oC (f_X8_in x1 (Int32.ofInt 0) (Int32.ofInt 3) w) fun q1 => (if q1.1 = 0 then (some ((Int32.ofInt (-1)), q1.2)) else (oC (f_X8_in x2 (Int32.ofInt 0) (Int32.ofInt 1) q1.2) fun q2 => (if q2.1 = 0 then (some ((Int32.ofInt (-2)), q2.2)) else (oC (f_X8_takesKept k0 q2.2) fun q3 => (x_X8_lastWrite 33 [] [some (zr 8 k0), some (zi x1), some (zi x2), some (zi (Int32.ofInt (-6))), some (zi (Int32.ofInt 0))] q3)))))) := (zev_eq (lf_X8_lastWrite _) _ _ _ _).trans rfl
set_option maxRecDepth 20000 in
theorem e_X8_lastWrite_33 (k0 : Nat) (x1 : Int32) (x2 : Int32) (x3 : Int32) (x4 : Int32) (w : Wd) : x_X8_lastWrite 33 [] [some (zr 8 k0), some (zi x1), some (zi x2), some (zi x3), some (zi x4)] w = (if (w.1 8 k0 18) ≤ x4 then (if x3 = (Int32.ofInt (-6)) then (some ((Int32.ofInt (-6)), w)) else (if x2 = 0 then (chk x3 24 (some ((w.1 37 0 x3.toNatClampNeg), w))) else (chk x3 24 (some ((w.1 38 0 x3.toNatClampNeg), w))))) else (chk x4 24 (chk x4 24 (oC (f_X8_step k0 (w.1 37 0 x4.toNatClampNeg) (w.1 38 0 x4.toNatClampNeg) w) fun q1 => (if q1.1 = ((Int32.ofInt 4) + x1) then (x_X8_lastWrite 33 [] [some (zr 8 k0), some (zi x1), some (zi x2), some (zi x4), some (zi (x4 + (Int32.ofInt 1)))] q1.2) else (x_X8_lastWrite 33 [] [some (zr 8 k0), some (zi x1), some (zi x2), some (zi x3), some (zi (x4 + (Int32.ofInt 1)))] q1.2)))))) := (zev_eq (lf_X8_lastWrite _) _ _ _ _).trans rfl
theorem k_X8_lastWrite : zLkV yX8_lastWrite cX8_lastWrite 5 (some .int) 8 2 := ⟨(tw4 (i := 209) rfl), (tw4 (i := 210) rfl), (tw1 (i := 9) rfl), (tw4 (i := 211) rfl), ⟨_, _, rfl⟩, rfl, by decide, by decide, by decide +kernel⟩
set_option maxHeartbeats 4000000 in
set_option maxRecDepth 20000 in
theorem a_X8_lastWrite {l : Launch} {D : va_G} {ad : Nat → Nat → Nat} {cA : Nat → ClassId} (hI : zInj ad) {ρ : Type} (X : ρ) : zAns l D ad cA yX8_lastWrite cX8_lastWrite 5 (some .int) 6 131 X (fun as => ∃ i as', as = zr 8 i :: as') (cI g_X8_lastWrite) := by
  intro as w Kf hv h
  obtain ⟨q, h1, h2⟩ := oC_inv h
  unfold g_X8_lastWrite at h1
  obtain ⟨tk0, k0, r, rfl, h1_1⟩ := pR_inv h1
  obtain ⟨bk0, h1_1z⟩ := zif_inv h1_1
  cases Nat.eq_of_beq_eq_true bk0
  obtain ⟨x1, r, rfl, h1_2⟩ := pI_inv h1_1z
  obtain ⟨x2, r, rfl, h1_3⟩ := pI_inv h1_2
  obtain ⟨rfl, h3⟩ := pE_inv h1_3
  exact ⟨_, _, ⟨_, _, rfl⟩, h2, trivial, zmeth (cM := cm_X8_lastWrite _) (bl := bl_X8_lastWrite) (ret := rI) hI (by decide) fl_X8 ll_X8 (lf_X8_lastWrite _) bk_X8_lastWrite (Nat.le_of_ble_eq_true rfl) hv (fun hF => (zml_cons (zcs hF ⟨Nat.le_refl _, Nat.le_refl _⟩ rfl (tw4 (i := 34) rfl) k_X8_in ⟨by decide, by decide⟩ (a_X8_in hI _)) (zml_cons (zcv hF ⟨Nat.le_refl _, Nat.le_refl _⟩ rfl (tw4 (i := 184) rfl) k_X8_takesKept ⟨by decide, by decide⟩ (a_X8_takesKept hI _)) (zml_cons (zcv hF ⟨Nat.le_refl _, Nat.le_refl _⟩ rfl (tw4 (i := 66) rfl) k_X8_step ⟨by decide, by decide⟩ (a_X8_step hI _)) zml_nil)))) (fun hF hr hk => zrt_I hF hr hk) h3⟩
def bl_X8_comesNext : ZBl := [(0, none, [(.aload_n 0, 1, 0, []), (.getfield 45, 3, 0, []), (.iload_n 2, 1, 0, []), (.iaload, 1, 0, []), (.iload_n 1, 1, 0, []), (.aload_n 0, 1, 0, []), (.getfield 42, 3, 0, []), (.iload_n 2, 1, 0, []), (.iaload, 1, 0, []), (.invokestatic 99, 3, 0, []), (.if_icmp .ne 7, 3, 23, [])]), (19, none, [(.iconst 1, 1, 0, []), (.goto 4, 3, 24, [])]), (23, none, [(.iconst 0, 1, 0, [])]), (24, none, [(.istore_n 3, 1, 0, []), (.iconst 0, 1, 0, []), (.istore 4, 2, 0, [])]), (28, some [true, true, true, true, true], [(.iload 4, 2, 0, []), (.iload_n 2, 1, 0, []), (.if_icmp .ge 50, 3, 81, [])]), (34, none, [(.iload_n 3, 1, 0, []), (.ifCond .eq 46, 3, 81, [])]), (38, none, [(.aload_n 0, 1, 0, []), (.iload 4, 2, 0, []), (.iload_n 2, 1, 0, []), (.invokevirtual 170, 3, 0, []), (.ifCond .eq 24, 3, 69, [])]), (48, none, [(.aload_n 0, 1, 0, []), (.getfield 45, 3, 0, []), (.iload 4, 2, 0, []), (.iaload, 1, 0, []), (.iload_n 1, 1, 0, []), (.aload_n 0, 1, 0, []), (.getfield 42, 3, 0, []), (.iload 4, 2, 0, []), (.iaload, 1, 0, []), (.invokestatic 99, 3, 0, []), (.if_icmp .ge 7, 3, 73, [])]), (69, none, [(.iconst 1, 1, 0, []), (.goto 4, 3, 74, [])]), (73, none, [(.iconst 0, 1, 0, [])]), (74, none, [(.istore_n 3, 1, 0, []), (.iinc 4 1, 3, 0, []), (.goto (-50), 3, 28, [])]), (81, none, [(.iload_n 3, 1, 0, []), (.ireturn, 1, 0, [])])]
set_option maxRecDepth 20000 in
theorem bk_X8_comesNext : zdb cX8_comesNext 5 bl_X8_comesNext = true := by decide +kernel
noncomputable def cm_X8_comesNext (ρ : Type) : List (Nat × Nat × ZCall ρ) := [(199, 2, cI g_X8_done), (340, 3, cI g_X8_isTied)]
theorem lf_X8_comesNext (ρ : Type) : LfM (cm_X8_comesNext ρ) := lfm_of (lfm_cons (lfc_I g_X8_done) (lfm_cons (lfc_I g_X8_isTied) lfm_n))
noncomputable def x_X8_comesNext : ZJ (Int32 × Wd) := zev cF_X8 cL_X8 bl_X8_comesNext (cm_X8_comesNext (Int32 × Wd)) rZ
noncomputable def f_X8_comesNext (k0 : Nat) (x1 : Int32) (x2 : Int32) (w : Wd) : Option (Int32 × Wd) := x_X8_comesNext 0 [] [some (zr 8 k0), some (zi x1), some (zi x2), none, none] w
noncomputable def g_X8_comesNext (r : List ZV) (w : Wd) : Option (Int32 × Wd) := pR r fun tk0 k0 r => zif (Nat.beq tk0 8) (pI r fun x1 r => pI r fun x2 r => pE r (f_X8_comesNext k0 x1 x2 w))
set_option maxRecDepth 20000 in
theorem e_X8_comesNext (k0 : Nat) (x1 : Int32) (x2 : Int32) (w : Wd) : f_X8_comesNext k0 x1 x2 w = (chk x2 24 (chk x2 24 (oC (f_X8_done x1 (w.1 37 0 x2.toNatClampNeg) w) fun q1 => (if (w.1 38 0 x2.toNatClampNeg) = q1.1 then (x_X8_comesNext 28 [] [some (zr 8 k0), some (zi x1), some (zi x2), some (zi (Int32.ofInt 1)), some (zi (Int32.ofInt 0))] q1.2) else (x_X8_comesNext 28 [] [some (zr 8 k0), some (zi x1), some (zi x2), some (zi (Int32.ofInt 0)), some (zi (Int32.ofInt 0))] q1.2))))) := (zev_eq (lf_X8_comesNext _) _ _ _ _).trans rfl
set_option maxRecDepth 20000 in
theorem e_X8_comesNext_28 (k0 : Nat) (x1 : Int32) (x2 : Int32) (x3 : Int32) (x4 : Int32) (w : Wd) : x_X8_comesNext 28 [] [some (zr 8 k0), some (zi x1), some (zi x2), some (zi x3), some (zi x4)] w = (if x2 ≤ x4 then (zb x3 (some (x3, w))) else (if x3 = 0 then (zb x3 (some (x3, w))) else (oC (f_X8_isTied k0 x4 x2 w) fun q1 => (if q1.1 = 0 then (x_X8_comesNext 28 [] [some (zr 8 k0), some (zi x1), some (zi x2), some (zi (Int32.ofInt 1)), some (zi (x4 + (Int32.ofInt 1)))] q1.2) else (chk x4 24 (chk x4 24 (oC (f_X8_done x1 (q1.2.1 37 0 x4.toNatClampNeg) q1.2) fun q2 => (if q2.1 ≤ (q1.2.1 38 0 x4.toNatClampNeg) then (x_X8_comesNext 28 [] [some (zr 8 k0), some (zi x1), some (zi x2), some (zi (Int32.ofInt 0)), some (zi (x4 + (Int32.ofInt 1)))] q2.2) else (x_X8_comesNext 28 [] [some (zr 8 k0), some (zi x1), some (zi x2), some (zi (Int32.ofInt 1)), some (zi (x4 + (Int32.ofInt 1)))] q2.2))))))))) := (zev_eq (lf_X8_comesNext _) _ _ _ _).trans rfl
theorem k_X8_comesNext : zLkV yX8_comesNext cX8_comesNext 5 (some .boolean) 8 2 := ⟨(tw4 (i := 218) rfl), (twp (n := 22) (List.mem_append_right _ (List.mem_append_right _ (List.mem_of_getElem? (i := 13) rfl)))), (tw1 (i := 9) rfl), (tw4 (i := 219) rfl), ⟨_, _, rfl⟩, rfl, by decide, by decide, by decide +kernel⟩
set_option maxHeartbeats 4000000 in
set_option maxRecDepth 20000 in
theorem a_X8_comesNext {l : Launch} {D : va_G} {ad : Nat → Nat → Nat} {cA : Nat → ClassId} (hI : zInj ad) {ρ : Type} (X : ρ) : zAns l D ad cA yX8_comesNext cX8_comesNext 5 (some .boolean) 2 46 X (fun as => ∃ i as', as = zr 8 i :: as') (cI g_X8_comesNext) := by
  intro as w Kf hv h
  obtain ⟨q, h1, h2⟩ := oC_inv h
  unfold g_X8_comesNext at h1
  obtain ⟨tk0, k0, r, rfl, h1_1⟩ := pR_inv h1
  obtain ⟨bk0, h1_1z⟩ := zif_inv h1_1
  cases Nat.eq_of_beq_eq_true bk0
  obtain ⟨x1, r, rfl, h1_2⟩ := pI_inv h1_1z
  obtain ⟨x2, r, rfl, h1_3⟩ := pI_inv h1_2
  obtain ⟨rfl, h3⟩ := pE_inv h1_3
  exact ⟨_, _, ⟨_, _, rfl⟩, h2, trivial, zmeth (cM := cm_X8_comesNext _) (bl := bl_X8_comesNext) (ret := rZ) hI (by decide) fl_X8 ll_X8 (lf_X8_comesNext _) bk_X8_comesNext (Nat.le_of_ble_eq_true rfl) hv (fun hF => (zml_cons (zcs hF ⟨Nat.le_refl _, Nat.le_refl _⟩ rfl (tw4 (i := 98) rfl) k_X8_done ⟨by decide, by decide⟩ (a_X8_done hI _)) (zml_cons (zcv hF ⟨Nat.le_refl _, Nat.le_refl _⟩ rfl (tw4 (i := 196) rfl) k_X8_isTied ⟨by decide, by decide⟩ (a_X8_isTied hI _)) zml_nil))) (fun hF hr hk => zrt_Z hF hr hk) h3⟩
def bl_X8_alikeRuns : ZBl := [(0, none, [(.aload_n 0, 1, 0, []), (.invokevirtual 179, 3, 0, []), (.iconst 0, 1, 0, []), (.istore_n 1, 1, 0, [])]), (6, some [true, true, false, false], [(.iload_n 1, 1, 0, []), (.sipush 2401, 3, 0, []), (.if_icmp .ge 16, 3, 26, [])]), (13, none, [(.aload_n 0, 1, 0, []), (.getfield 28, 3, 0, []), (.iload_n 1, 1, 0, []), (.lconst 0, 1, 0, []), (.lastore, 1, 0, []), (.iinc 1 1, 3, 0, []), (.goto (-17), 3, 6, [])]), (26, none, [(.aload_n 0, 1, 0, []), (.getfield 28, 3, 0, []), (.iconst 0, 1, 0, []), (.lconst 1, 1, 0, []), (.lastore, 1, 0, []), (.iconst 0, 1, 0, []), (.istore_n 1, 1, 0, []), (.iconst 0, 1, 0, []), (.istore_n 2, 1, 0, [])]), (37, some [true, true, true, false], [(.iload_n 2, 1, 0, []), (.sipush 2401, 3, 0, []), (.if_icmp .ge 70, 3, 111, [])]), (44, none, [(.iconst 0, 1, 0, []), (.istore_n 3, 1, 0, [])]), (46, some [true, true, true, true], [(.iload_n 3, 1, 0, []), (.aload_n 0, 1, 0, []), (.getfield 163, 3, 0, []), (.if_icmp .ge 54, 3, 105, [])]), (54, none, [(.aload_n 0, 1, 0, []), (.getfield 28, 3, 0, []), (.iload_n 2, 1, 0, []), (.laload, 1, 0, []), (.lconst 0, 1, 0, []), (.lcmp, 1, 0, []), (.ifCond .le 43, 3, 105, [])]), (65, none, [(.aload_n 0, 1, 0, []), (.iload_n 2, 1, 0, []), (.iload_n 3, 1, 0, []), (.invokevirtual 185, 3, 0, []), (.ifCond .eq 28, 3, 99, [])]), (74, none, [(.aload_n 0, 1, 0, []), (.getfield 28, 3, 0, []), (.iload_n 2, 1, 0, []), (.aload_n 0, 1, 0, []), (.getfield 42, 3, 0, []), (.iload_n 3, 1, 0, []), (.iaload, 1, 0, []), (.invokestatic 96, 3, 0, []), (.iadd, 1, 0, []), (.dup2, 1, 0, []), (.laload, 1, 0, []), (.aload_n 0, 1, 0, []), (.getfield 28, 3, 0, []), (.iload_n 2, 1, 0, []), (.laload, 1, 0, []), (.ladd, 1, 0, []), (.lastore, 1, 0, [])]), (99, none, [(.iinc 3 1, 3, 0, []), (.goto (-56), 3, 46, [])]), (105, none, [(.iinc 2 1, 3, 0, []), (.goto (-71), 3, 37, [])]), (111, none, [(.iconst 0, 1, 0, []), (.istore_n 2, 1, 0, [])]), (113, some [true, true, true, false], [(.iload_n 2, 1, 0, []), (.aload_n 0, 1, 0, []), (.getfield 163, 3, 0, []), (.if_icmp .ge 21, 3, 139, [])]), (121, none, [(.iload_n 1, 1, 0, []), (.aload_n 0, 1, 0, []), (.getfield 42, 3, 0, []), (.iload_n 2, 1, 0, []), (.iaload, 1, 0, []), (.invokestatic 96, 3, 0, []), (.iadd, 1, 0, []), (.istore_n 1, 1, 0, []), (.iinc 2 1, 3, 0, []), (.goto (-23), 3, 113, [])]), (139, none, [(.aload_n 0, 1, 0, []), (.getfield 28, 3, 0, []), (.iload_n 1, 1, 0, []), (.laload, 1, 0, []), (.lreturn, 1, 0, [])])]
set_option maxRecDepth 20000 in
theorem bk_X8_alikeRuns : zdb cX8_alikeRuns 4 bl_X8_alikeRuns = true := by decide +kernel
noncomputable def cm_X8_alikeRuns (ρ : Type) : List (Nat × Nat × ZCall ρ) := [(358, 1, cV g_X8_takesKept), (370, 3, cI g_X8_comesNext), (193, 1, cI g_X8_figure)]
theorem lf_X8_alikeRuns (ρ : Type) : LfM (cm_X8_alikeRuns ρ) := lfm_of (lfm_cons (lfc_V g_X8_takesKept) (lfm_cons (lfc_I g_X8_comesNext) (lfm_cons (lfc_I g_X8_figure) lfm_n)))
noncomputable def x_X8_alikeRuns : ZJ (Int64 × Wd) := zev cF_X8 cL_X8 bl_X8_alikeRuns (cm_X8_alikeRuns (Int64 × Wd)) rJ
noncomputable def f_X8_alikeRuns (k0 : Nat) (w : Wd) : Option (Int64 × Wd) := x_X8_alikeRuns 0 [] [some (zr 8 k0), none, none, none] w
noncomputable def g_X8_alikeRuns (r : List ZV) (w : Wd) : Option (Int64 × Wd) := pR r fun tk0 k0 r => zif (Nat.beq tk0 8) (pE r (f_X8_alikeRuns k0 w))
set_option maxRecDepth 20000 in
theorem e_X8_alikeRuns (k0 : Nat) (w : Wd) : f_X8_alikeRuns k0 w = (oC (f_X8_takesKept k0 w) fun q1 => (x_X8_alikeRuns 6 [] [some (zr 8 k0), some (zi (Int32.ofInt 0)), none, none] q1)) := (zev_eq (lf_X8_alikeRuns _) _ _ _ _).trans rfl
set_option maxRecDepth 20000 in
theorem e_X8_alikeRuns_6 (k0 : Nat) (x1 : Int32) (w : Wd) : x_X8_alikeRuns 6 [] [some (zr 8 k0), some (zi x1), none, none] w = (if (Int32.ofInt 2401) ≤ x1 then (chk (Int32.ofInt 0) 2401 (x_X8_alikeRuns 37 [] [some (zr 8 k0), some (zi (Int32.ofInt 0)), some (zi (Int32.ofInt 0)), none] (wL w 33 0 (Int32.ofInt 0).toNatClampNeg (Int64.ofInt 1)))) else (chk x1 2401 (x_X8_alikeRuns 6 [] [some (zr 8 k0), some (zi (x1 + (Int32.ofInt 1))), none, none] (wL w 33 0 x1.toNatClampNeg (Int64.ofInt 0))))) := (zev_eq (lf_X8_alikeRuns _) _ _ _ _).trans rfl
set_option maxRecDepth 20000 in
theorem e_X8_alikeRuns_37 (k0 : Nat) (x1 : Int32) (x2 : Int32) (w : Wd) : x_X8_alikeRuns 37 [] [some (zr 8 k0), some (zi x1), some (zi x2), none] w = (if (Int32.ofInt 2401) ≤ x2 then (x_X8_alikeRuns 113 [] [some (zr 8 k0), some (zi x1), some (zi (Int32.ofInt 0)), none] w) else (x_X8_alikeRuns 46 [] [some (zr 8 k0), some (zi x1), some (zi x2), some (zi (Int32.ofInt 0))] w)) := (zev_eq (lf_X8_alikeRuns _) _ _ _ _).trans rfl
set_option maxRecDepth 20000 in
theorem e_X8_alikeRuns_113 (k0 : Nat) (x1 : Int32) (x2 : Int32) (w : Wd) : x_X8_alikeRuns 113 [] [some (zr 8 k0), some (zi x1), some (zi x2), none] w = (if (w.1 8 k0 18) ≤ x2 then (chk x1 2401 (some ((w.2 33 0 x1.toNatClampNeg), w))) else (chk x2 24 (oC (f_X8_figure (w.1 37 0 x2.toNatClampNeg) w) fun q1 => (x_X8_alikeRuns 113 [] [some (zr 8 k0), some (zi (x1 + q1.1)), some (zi (x2 + (Int32.ofInt 1))), none] q1.2)))) := (zev_eq (lf_X8_alikeRuns _) _ _ _ _).trans rfl
set_option maxRecDepth 20000 in
theorem e_X8_alikeRuns_46 (k0 : Nat) (x1 : Int32) (x2 : Int32) (x3 : Int32) (w : Wd) : x_X8_alikeRuns 46 [] [some (zr 8 k0), some (zi x1), some (zi x2), some (zi x3)] w = (if (w.1 8 k0 18) ≤ x3 then (x_X8_alikeRuns 37 [] [some (zr 8 k0), some (zi x1), some (zi (x2 + (Int32.ofInt 1))), none] w) else (chk x2 2401 (if (lg_cmp (w.2 33 0 x2.toNatClampNeg) (Int64.ofInt 0)) ≤ 0 then (x_X8_alikeRuns 37 [] [some (zr 8 k0), some (zi x1), some (zi (x2 + (Int32.ofInt 1))), none] w) else (oC (f_X8_comesNext k0 x2 x3 w) fun q1 => (if q1.1 = 0 then (x_X8_alikeRuns 46 [] [some (zr 8 k0), some (zi x1), some (zi x2), some (zi (x3 + (Int32.ofInt 1)))] q1.2) else (chk x3 24 (oC (f_X8_figure (q1.2.1 37 0 x3.toNatClampNeg) q1.2) fun q2 => (chk (x2 + q2.1) 2401 (chk x2 2401 (chk (x2 + q2.1) 2401 (x_X8_alikeRuns 46 [] [some (zr 8 k0), some (zi x1), some (zi x2), some (zi (x3 + (Int32.ofInt 1)))] (wL q2.2 33 0 (x2 + q2.1).toNatClampNeg ((q2.2.2 33 0 (x2 + q2.1).toNatClampNeg) + (q2.2.2 33 0 x2.toNatClampNeg)))))))))))))) := (zev_eq (lf_X8_alikeRuns _) _ _ _ _).trans rfl
theorem k_X8_alikeRuns : zLkV yX8_alikeRuns cX8_alikeRuns 4 (some .long) 8 0 := ⟨(tw4 (i := 213) rfl), (tw4 (i := 214) rfl), (tw1 (i := 9) rfl), (tw4 (i := 215) rfl), ⟨_, _, rfl⟩, rfl, by decide, by decide, by decide +kernel⟩
set_option maxHeartbeats 4000000 in
set_option maxRecDepth 20000 in
theorem a_X8_alikeRuns {l : Launch} {D : va_G} {ad : Nat → Nat → Nat} {cA : Nat → ClassId} (hI : zInj ad) {ρ : Type} (X : ρ) : zAns l D ad cA yX8_alikeRuns cX8_alikeRuns 4 (some .long) 6 131 X (fun as => ∃ i as', as = zr 8 i :: as') (cJ g_X8_alikeRuns) := by
  intro as w Kf hv h
  obtain ⟨q, h1, h2⟩ := oC_inv h
  unfold g_X8_alikeRuns at h1
  obtain ⟨tk0, k0, r, rfl, h1_1⟩ := pR_inv h1
  obtain ⟨bk0, h1_1z⟩ := zif_inv h1_1
  cases Nat.eq_of_beq_eq_true bk0
  obtain ⟨rfl, h3⟩ := pE_inv h1_1z
  exact ⟨_, _, ⟨_, _, rfl⟩, h2, trivial, zmeth (cM := cm_X8_alikeRuns _) (bl := bl_X8_alikeRuns) (ret := rJ) hI (by decide) fl_X8 ll_X8 (lf_X8_alikeRuns _) bk_X8_alikeRuns (Nat.le_of_ble_eq_true rfl) hv (fun hF => (zml_cons (zcv hF ⟨Nat.le_refl _, Nat.le_refl _⟩ rfl (tw4 (i := 184) rfl) k_X8_takesKept ⟨by decide, by decide⟩ (a_X8_takesKept hI _)) (zml_cons (zcv hF ⟨Nat.le_refl _, Nat.le_refl _⟩ rfl (tw4 (i := 216) rfl) k_X8_comesNext ⟨by decide, by decide⟩ (a_X8_comesNext hI _)) (zml_cons (zcs hF ⟨Nat.le_refl _, Nat.le_refl _⟩ rfl (tw4 (i := 101) rfl) k_X8_figure ⟨by decide, by decide⟩ (a_X8_figure hI _)) zml_nil)))) (fun hF hr hk => zrt_J hF hr hk) h3⟩
def bl_X8_notWith : ZBl := [(0, none, [(.iconst 0, 1, 0, []), (.istore_n 3, 1, 0, []), (.iconst 0, 1, 0, []), (.istore 4, 2, 0, [])]), (5, some [true, true, true, true, true, false], [(.iload 4, 2, 0, []), (.iconst 4, 1, 0, []), (.if_icmp .ge 64, 3, 72, [])]), (11, none, [(.iconst 0, 1, 0, []), (.istore 5, 2, 0, [])]), (14, some [true, true, true, true, true, true], [(.iload 5, 2, 0, []), (.aload_n 0, 1, 0, []), (.getfield 7, 3, 0, []), (.iload 4, 2, 0, []), (.iaload, 1, 0, []), (.if_icmp .ge 43, 3, 66, [])]), (26, none, [(.iload 4, 2, 0, []), (.iload_n 1, 1, 0, []), (.if_icmp .eq 37, 3, 66, [])]), (32, none, [(.iload_n 3, 1, 0, []), (.aload_n 0, 1, 0, []), (.iload_n 1, 1, 0, []), (.iload_n 2, 1, 0, []), (.invokevirtual 81, 3, 0, []), (.aload_n 0, 1, 0, []), (.iload 4, 2, 0, []), (.iload 5, 2, 0, []), (.invokevirtual 81, 3, 0, []), (.invokestatic 136, 3, 0, []), (.ifCond .eq 7, 3, 57, [])]), (53, none, [(.iconst 0, 1, 0, []), (.goto 4, 3, 58, [])]), (57, none, [(.iconst 1, 1, 0, [])]), (58, none, [(.iadd, 1, 0, []), (.istore_n 3, 1, 0, []), (.iinc 5 1, 3, 0, []), (.goto (-49), 3, 14, [])]), (66, none, [(.iinc 4 1, 3, 0, []), (.goto (-64), 3, 5, [])]), (72, none, [(.iload_n 3, 1, 0, []), (.ireturn, 1, 0, [])])]
set_option maxRecDepth 20000 in
theorem bk_X8_notWith : zdb cX8_notWith 6 bl_X8_notWith = true := by decide +kernel
noncomputable def cm_X8_notWith (ρ : Type) : List (Nat × Nat × ZCall ρ) := [(162, 3, cI g_X8_step), (273, 2, cI g_X8_commute)]
theorem lf_X8_notWith (ρ : Type) : LfM (cm_X8_notWith ρ) := lfm_of (lfm_cons (lfc_I g_X8_step) (lfm_cons (lfc_I g_X8_commute) lfm_n))
noncomputable def x_X8_notWith : ZJ (Int32 × Wd) := zev cF_X8 cL_X8 bl_X8_notWith (cm_X8_notWith (Int32 × Wd)) rI
noncomputable def f_X8_notWith (k0 : Nat) (x1 : Int32) (x2 : Int32) (w : Wd) : Option (Int32 × Wd) := x_X8_notWith 0 [] [some (zr 8 k0), some (zi x1), some (zi x2), none, none, none] w
noncomputable def g_X8_notWith (r : List ZV) (w : Wd) : Option (Int32 × Wd) := pR r fun tk0 k0 r => zif (Nat.beq tk0 8) (pI r fun x1 r => pI r fun x2 r => pE r (f_X8_notWith k0 x1 x2 w))
set_option maxRecDepth 20000 in
theorem e_X8_notWith (k0 : Nat) (x1 : Int32) (x2 : Int32) (w : Wd) : f_X8_notWith k0 x1 x2 w = (x_X8_notWith 5 [] [some (zr 8 k0), some (zi x1), some (zi x2), some (zi (Int32.ofInt 0)), some (zi (Int32.ofInt 0)), none] w) := (zev_eq (lf_X8_notWith _) _ _ _ _).trans rfl
set_option maxRecDepth 20000 in
theorem e_X8_notWith_5 (k0 : Nat) (x1 : Int32) (x2 : Int32) (x3 : Int32) (x4 : Int32) (w : Wd) : x_X8_notWith 5 [] [some (zr 8 k0), some (zi x1), some (zi x2), some (zi x3), some (zi x4), none] w = (if (Int32.ofInt 4) ≤ x4 then (some (x3, w)) else (x_X8_notWith 14 [] [some (zr 8 k0), some (zi x1), some (zi x2), some (zi x3), some (zi x4), some (zi (Int32.ofInt 0))] w)) := (zev_eq (lf_X8_notWith _) _ _ _ _).trans rfl
set_option maxRecDepth 20000 in
theorem e_X8_notWith_14 (k0 : Nat) (x1 : Int32) (x2 : Int32) (x3 : Int32) (x4 : Int32) (x5 : Int32) (w : Wd) : x_X8_notWith 14 [] [some (zr 8 k0), some (zi x1), some (zi x2), some (zi x3), some (zi x4), some (zi x5)] w = (chk x4 53 (if (w.1 30 0 x4.toNatClampNeg) ≤ x5 then (x_X8_notWith 5 [] [some (zr 8 k0), some (zi x1), some (zi x2), some (zi x3), some (zi (x4 + (Int32.ofInt 1))), none] w) else (if x4 = x1 then (x_X8_notWith 5 [] [some (zr 8 k0), some (zi x1), some (zi x2), some (zi x3), some (zi (x4 + (Int32.ofInt 1))), none] w) else (oC (f_X8_step k0 x1 x2 w) fun q1 => (oC (f_X8_step k0 x4 x5 q1.2) fun q2 => (oC (f_X8_commute q1.1 q2.1 q2.2) fun q3 => (if q3.1 = 0 then (x_X8_notWith 14 [] [some (zr 8 k0), some (zi x1), some (zi x2), some (zi (x3 + (Int32.ofInt 1))), some (zi x4), some (zi (x5 + (Int32.ofInt 1)))] q3.2) else (x_X8_notWith 14 [] [some (zr 8 k0), some (zi x1), some (zi x2), some (zi (x3 + (Int32.ofInt 0))), some (zi x4), some (zi (x5 + (Int32.ofInt 1)))] q3.2)))))))) := (zev_eq (lf_X8_notWith _) _ _ _ _).trans rfl
theorem k_X8_notWith : zLkV yX8_notWith cX8_notWith 6 (some .int) 8 2 := ⟨(tw4 (i := 226) rfl), (twp (n := 22) (List.mem_append_right _ (List.mem_append_right _ (List.mem_of_getElem? (i := 14) rfl)))), (tw1 (i := 9) rfl), (tw4 (i := 227) rfl), ⟨_, _, rfl⟩, rfl, by decide, by decide, by decide +kernel⟩
set_option maxHeartbeats 4000000 in
set_option maxRecDepth 20000 in
theorem a_X8_notWith {l : Launch} {D : va_G} {ad : Nat → Nat → Nat} {cA : Nat → ClassId} (hI : zInj ad) {ρ : Type} (X : ρ) : zAns l D ad cA yX8_notWith cX8_notWith 6 (some .int) 1 24 X (fun as => ∃ i as', as = zr 8 i :: as') (cI g_X8_notWith) := by
  intro as w Kf hv h
  obtain ⟨q, h1, h2⟩ := oC_inv h
  unfold g_X8_notWith at h1
  obtain ⟨tk0, k0, r, rfl, h1_1⟩ := pR_inv h1
  obtain ⟨bk0, h1_1z⟩ := zif_inv h1_1
  cases Nat.eq_of_beq_eq_true bk0
  obtain ⟨x1, r, rfl, h1_2⟩ := pI_inv h1_1z
  obtain ⟨x2, r, rfl, h1_3⟩ := pI_inv h1_2
  obtain ⟨rfl, h3⟩ := pE_inv h1_3
  exact ⟨_, _, ⟨_, _, rfl⟩, h2, trivial, zmeth (cM := cm_X8_notWith _) (bl := bl_X8_notWith) (ret := rI) hI (by decide) fl_X8 ll_X8 (lf_X8_notWith _) bk_X8_notWith (Nat.le_of_ble_eq_true rfl) hv (fun hF => (zml_cons (zcv hF ⟨Nat.le_refl _, Nat.le_refl _⟩ rfl (tw4 (i := 66) rfl) k_X8_step ⟨by decide, by decide⟩ (a_X8_step hI _)) (zml_cons (zcs hF ⟨Nat.le_refl _, Nat.le_refl _⟩ rfl (tw4 (i := 153) rfl) k_X8_commute ⟨by decide, by decide⟩ (a_X8_commute hI _)) zml_nil))) (fun hF hr hk => zrt_I hF hr hk) h3⟩
def bl_X8_ofStep : ZBl := [(0, none, [(.iload_n 1, 1, 0, []), (.invokestatic 85, 3, 0, []), (.ifCond .eq 19, 3, 23, [])]), (7, none, [(.iload_n 2, 1, 0, []), (.iconst 0, 1, 0, []), (.aload_n 0, 1, 0, []), (.getfield 7, 3, 0, []), (.iload_n 1, 1, 0, []), (.iaload, 1, 0, []), (.iconst 1, 1, 0, []), (.isub, 1, 0, []), (.invokestatic 65, 3, 0, []), (.ifCond .ne 5, 3, 25, [])]), (23, none, [(.iconst (-1), 1, 0, []), (.ireturn, 1, 0, [])]), (25, none, [(.aload_n 0, 1, 0, []), (.iload_n 1, 1, 0, []), (.iload_n 2, 1, 0, []), (.invokevirtual 81, 3, 0, []), (.istore 4, 2, 0, []), (.iload_n 3, 1, 0, []), (.ifCond .ne 10, 3, 44, [])]), (37, none, [(.iload 4, 2, 0, []), (.iconst 4, 1, 0, []), (.idiv, 1, 0, []), (.goto 31, 3, 72, [])]), (44, none, [(.iload_n 3, 1, 0, []), (.iconst 1, 1, 0, []), (.if_icmp .ne 10, 3, 56, [])]), (49, none, [(.iload 4, 2, 0, []), (.iconst 4, 1, 0, []), (.irem, 1, 0, []), (.goto 19, 3, 72, [])]), (56, none, [(.iload_n 3, 1, 0, []), (.iconst 2, 1, 0, []), (.if_icmp .ne 12, 3, 70, [])]), (61, none, [(.aload_n 0, 1, 0, []), (.iload_n 1, 1, 0, []), (.iload_n 2, 1, 0, []), (.invokevirtual 188, 3, 0, []), (.goto 5, 3, 72, [])]), (70, none, [(.bipush (-2), 2, 0, [])]), (72, none, [(.ireturn, 1, 0, [])])]
set_option maxRecDepth 20000 in
theorem bk_X8_ofStep : zdb cX8_ofStep 5 bl_X8_ofStep = true := by decide +kernel
noncomputable def cm_X8_ofStep (ρ : Type) : List (Nat × Nat × ZCall ρ) := [(171, 1, cI g_X8_isThread), (131, 3, cI g_X8_in), (162, 3, cI g_X8_step), (376, 3, cI g_X8_notWith)]
theorem lf_X8_ofStep (ρ : Type) : LfM (cm_X8_ofStep ρ) := lfm_of (lfm_cons (lfc_I g_X8_isThread) (lfm_cons (lfc_I g_X8_in) (lfm_cons (lfc_I g_X8_step) (lfm_cons (lfc_I g_X8_notWith) lfm_n))))
noncomputable def x_X8_ofStep : ZJ (Int32 × Wd) := zev cF_X8 cL_X8 bl_X8_ofStep (cm_X8_ofStep (Int32 × Wd)) rI
noncomputable def f_X8_ofStep (k0 : Nat) (x1 : Int32) (x2 : Int32) (x3 : Int32) (w : Wd) : Option (Int32 × Wd) := x_X8_ofStep 0 [] [some (zr 8 k0), some (zi x1), some (zi x2), some (zi x3), none] w
noncomputable def g_X8_ofStep (r : List ZV) (w : Wd) : Option (Int32 × Wd) := pR r fun tk0 k0 r => zif (Nat.beq tk0 8) (pI r fun x1 r => pI r fun x2 r => pI r fun x3 r => pE r (f_X8_ofStep k0 x1 x2 x3 w))
set_option maxRecDepth 20000 in
theorem e_X8_ofStep (k0 : Nat) (x1 : Int32) (x2 : Int32) (x3 : Int32) (w : Wd) : f_X8_ofStep k0 x1 x2 x3 w = (oC (f_X8_isThread x1 w) fun q1 => (if q1.1 = 0 then (some ((Int32.ofInt (-1)), q1.2)) else (chk x1 53 (oC (f_X8_in x2 (Int32.ofInt 0) ((q1.2.1 30 0 x1.toNatClampNeg) - (Int32.ofInt 1)) q1.2) fun q2 => (if q2.1 = 0 then (some ((Int32.ofInt (-1)), q2.2)) else (oC (f_X8_step k0 x1 x2 q2.2) fun q3 => (if x3 = 0 then (if (Int32.ofInt 4) = 0 then none else (some ((q3.1 / (Int32.ofInt 4)), q3.2))) else (if x3 = (Int32.ofInt 1) then (if (Int32.ofInt 4) = 0 then none else (some ((q3.1 - q3.1 / (Int32.ofInt 4) * (Int32.ofInt 4)), q3.2))) else (if x3 = (Int32.ofInt 2) then (oC (f_X8_notWith k0 x1 x2 q3.2) fun q4 => (some (q4.1, q4.2))) else (some ((Int32.ofInt (-2)), q3.2))))))))))) := (zev_eq (lf_X8_ofStep _) _ _ _ _).trans rfl
theorem k_X8_ofStep : zLkV yX8_ofStep cX8_ofStep 5 (some .int) 8 3 := ⟨(tw4 (i := 221) rfl), (tw4 (i := 222) rfl), (tw1 (i := 9) rfl), (tw4 (i := 223) rfl), ⟨_, _, rfl⟩, rfl, by decide, by decide, by decide +kernel⟩
set_option maxHeartbeats 4000000 in
set_option maxRecDepth 20000 in
theorem a_X8_ofStep {l : Launch} {D : va_G} {ad : Nat → Nat → Nat} {cA : Nat → ClassId} (hI : zInj ad) {ρ : Type} (X : ρ) : zAns l D ad cA yX8_ofStep cX8_ofStep 5 (some .int) 2 49 X (fun as => ∃ i as', as = zr 8 i :: as') (cI g_X8_ofStep) := by
  intro as w Kf hv h
  obtain ⟨q, h1, h2⟩ := oC_inv h
  unfold g_X8_ofStep at h1
  obtain ⟨tk0, k0, r, rfl, h1_1⟩ := pR_inv h1
  obtain ⟨bk0, h1_1z⟩ := zif_inv h1_1
  cases Nat.eq_of_beq_eq_true bk0
  obtain ⟨x1, r, rfl, h1_2⟩ := pI_inv h1_1z
  obtain ⟨x2, r, rfl, h1_3⟩ := pI_inv h1_2
  obtain ⟨x3, r, rfl, h1_4⟩ := pI_inv h1_3
  obtain ⟨rfl, h3⟩ := pE_inv h1_4
  exact ⟨_, _, ⟨_, _, rfl⟩, h2, trivial, zmeth (cM := cm_X8_ofStep _) (bl := bl_X8_ofStep) (ret := rI) hI (by decide) fl_X8 ll_X8 (lf_X8_ofStep _) bk_X8_ofStep (Nat.le_of_ble_eq_true rfl) hv (fun hF => (zml_cons (zcs hF ⟨Nat.le_refl _, Nat.le_refl _⟩ rfl (tw4 (i := 56) rfl) k_X8_isThread ⟨by decide, by decide⟩ (a_X8_isThread hI _)) (zml_cons (zcs hF ⟨Nat.le_refl _, Nat.le_refl _⟩ rfl (tw4 (i := 34) rfl) k_X8_in ⟨by decide, by decide⟩ (a_X8_in hI _)) (zml_cons (zcv hF ⟨Nat.le_refl _, Nat.le_refl _⟩ rfl (tw4 (i := 66) rfl) k_X8_step ⟨by decide, by decide⟩ (a_X8_step hI _)) (zml_cons (zcv hF ⟨Nat.le_refl _, Nat.le_refl _⟩ rfl (tw4 (i := 224) rfl) k_X8_notWith ⟨by decide, by decide⟩ (a_X8_notWith hI _)) zml_nil))))) (fun hF hr hk => zrt_I hF hr hk) h3⟩
def bl_X8_count : ZBl := [(0, none, [(.iload_n 1, 1, 0, []), (.tableswitch 130 0 8 #[51, 51, 51, 51, 58, 63, 68, 73, 81], 51, 131, [(0, 52), (1, 52), (2, 52), (3, 52), (4, 59), (5, 64), (6, 69), (7, 74), (8, 82)])]), (52, none, [(.aload_n 0, 1, 0, []), (.getfield 7, 3, 0, []), (.iload_n 1, 1, 0, []), (.iaload, 1, 0, []), (.ireturn, 1, 0, [])]), (59, none, [(.aload_n 0, 1, 0, []), (.invokevirtual 191, 3, 0, []), (.ireturn, 1, 0, [])]), (64, none, [(.aload_n 0, 1, 0, []), (.getfield 71, 3, 0, []), (.ireturn, 1, 0, [])]), (69, none, [(.aload_n 0, 1, 0, []), (.getfield 57, 3, 0, []), (.ireturn, 1, 0, [])]), (74, none, [(.aload_n 0, 1, 0, []), (.getfield 7, 3, 0, []), (.bipush 28, 2, 0, []), (.iaload, 1, 0, []), (.ireturn, 1, 0, [])]), (82, none, [(.iconst 0, 1, 0, []), (.istore_n 2, 1, 0, []), (.iconst 0, 1, 0, []), (.istore_n 3, 1, 0, [])]), (86, some [true, false, true, true, false], [(.iload_n 3, 1, 0, []), (.iconst 4, 1, 0, []), (.if_icmp .ge 39, 3, 127, [])]), (91, none, [(.iconst 0, 1, 0, []), (.istore 4, 2, 0, [])]), (94, some [true, false, true, true, true], [(.iload 4, 2, 0, []), (.aload_n 0, 1, 0, []), (.getfield 7, 3, 0, []), (.iload_n 3, 1, 0, []), (.iaload, 1, 0, []), (.if_icmp .ge 19, 3, 121, [])]), (105, none, [(.iload_n 2, 1, 0, []), (.aload_n 0, 1, 0, []), (.iload_n 3, 1, 0, []), (.iload 4, 2, 0, []), (.invokevirtual 188, 3, 0, []), (.iadd, 1, 0, []), (.istore_n 2, 1, 0, []), (.iinc 4 1, 3, 0, []), (.goto (-24), 3, 94, [])]), (121, none, [(.iinc 3 1, 3, 0, []), (.goto (-38), 3, 86, [])]), (127, none, [(.iload_n 2, 1, 0, []), (.iconst 2, 1, 0, []), (.idiv, 1, 0, []), (.ireturn, 1, 0, [])]), (131, none, [(.bipush (-2), 2, 0, []), (.ireturn, 1, 0, [])])]
set_option maxRecDepth 20000 in
theorem bk_X8_count : zdb cX8_count 5 bl_X8_count = true := by decide +kernel
noncomputable def cm_X8_count (ρ : Type) : List (Nat × Nat × ZCall ρ) := [(382, 1, cI g_X8_stepsAll), (376, 3, cI g_X8_notWith)]
theorem lf_X8_count (ρ : Type) : LfM (cm_X8_count ρ) := lfm_of (lfm_cons (lfc_I g_X8_stepsAll) (lfm_cons (lfc_I g_X8_notWith) lfm_n))
noncomputable def x_X8_count : ZJ (Int32 × Wd) := zev cF_X8 cL_X8 bl_X8_count (cm_X8_count (Int32 × Wd)) rI
noncomputable def f_X8_count (k0 : Nat) (x1 : Int32) (w : Wd) : Option (Int32 × Wd) := x_X8_count 0 [] [some (zr 8 k0), some (zi x1), none, none, none] w
noncomputable def g_X8_count (r : List ZV) (w : Wd) : Option (Int32 × Wd) := pR r fun tk0 k0 r => zif (Nat.beq tk0 8) (pI r fun x1 r => pE r (f_X8_count k0 x1 w))
set_option maxRecDepth 20000 in
theorem e_X8_count (k0 : Nat) (x1 : Int32) (w : Wd) : f_X8_count k0 x1 w = (if x1 = (Int32.ofInt 0) then (chk x1 53 (some ((w.1 30 0 x1.toNatClampNeg), w))) else (if x1 = (Int32.ofInt 1) then (chk x1 53 (some ((w.1 30 0 x1.toNatClampNeg), w))) else (if x1 = (Int32.ofInt 2) then (chk x1 53 (some ((w.1 30 0 x1.toNatClampNeg), w))) else (if x1 = (Int32.ofInt 3) then (chk x1 53 (some ((w.1 30 0 x1.toNatClampNeg), w))) else (if x1 = (Int32.ofInt 4) then (oC (f_X8_stepsAll k0 w) fun q1 => (some (q1.1, q1.2))) else (if x1 = (Int32.ofInt 5) then (some ((w.1 8 k0 7), w)) else (if x1 = (Int32.ofInt 6) then (some ((w.1 8 k0 2), w)) else (if x1 = (Int32.ofInt 7) then (chk (Int32.ofInt 28) 53 (some ((w.1 30 0 (Int32.ofInt 28).toNatClampNeg), w))) else (if x1 = (Int32.ofInt 8) then (x_X8_count 86 [] [some (zr 8 k0), none, some (zi (Int32.ofInt 0)), some (zi (Int32.ofInt 0)), none] w) else (some ((Int32.ofInt (-2)), w))))))))))) := (zev_eq (lf_X8_count _) _ _ _ _).trans rfl
set_option maxRecDepth 20000 in
theorem e_X8_count_86 (k0 : Nat) (x2 : Int32) (x3 : Int32) (w : Wd) : x_X8_count 86 [] [some (zr 8 k0), none, some (zi x2), some (zi x3), none] w = (if (Int32.ofInt 4) ≤ x3 then (if (Int32.ofInt 2) = 0 then none else (some ((x2 / (Int32.ofInt 2)), w))) else (x_X8_count 94 [] [some (zr 8 k0), none, some (zi x2), some (zi x3), some (zi (Int32.ofInt 0))] w)) := (zev_eq (lf_X8_count _) _ _ _ _).trans rfl
set_option maxRecDepth 20000 in
theorem e_X8_count_94 (k0 : Nat) (x2 : Int32) (x3 : Int32) (x4 : Int32) (w : Wd) : x_X8_count 94 [] [some (zr 8 k0), none, some (zi x2), some (zi x3), some (zi x4)] w = (chk x3 53 (if (w.1 30 0 x3.toNatClampNeg) ≤ x4 then (x_X8_count 86 [] [some (zr 8 k0), none, some (zi x2), some (zi (x3 + (Int32.ofInt 1))), none] w) else (oC (f_X8_notWith k0 x3 x4 w) fun q1 => (x_X8_count 94 [] [some (zr 8 k0), none, some (zi (x2 + q1.1)), some (zi x3), some (zi (x4 + (Int32.ofInt 1)))] q1.2)))) := (zev_eq (lf_X8_count _) _ _ _ _).trans rfl
theorem k_X8_count : zLkV yX8_count cX8_count 5 (some .int) 8 1 := ⟨(tw4 (i := 229) rfl), (tw4 (i := 230) rfl), (tw1 (i := 9) rfl), (tw4 (i := 231) rfl), ⟨_, _, rfl⟩, rfl, by decide, by decide, by decide +kernel⟩
set_option maxHeartbeats 4000000 in
set_option maxRecDepth 20000 in
theorem a_X8_count {l : Launch} {D : va_G} {ad : Nat → Nat → Nat} {cA : Nat → ClassId} (hI : zInj ad) {ρ : Type} (X : ρ) : zAns l D ad cA yX8_count cX8_count 5 (some .int) 2 49 X (fun as => ∃ i as', as = zr 8 i :: as') (cI g_X8_count) := by
  intro as w Kf hv h
  obtain ⟨q, h1, h2⟩ := oC_inv h
  unfold g_X8_count at h1
  obtain ⟨tk0, k0, r, rfl, h1_1⟩ := pR_inv h1
  obtain ⟨bk0, h1_1z⟩ := zif_inv h1_1
  cases Nat.eq_of_beq_eq_true bk0
  obtain ⟨x1, r, rfl, h1_2⟩ := pI_inv h1_1z
  obtain ⟨rfl, h3⟩ := pE_inv h1_2
  exact ⟨_, _, ⟨_, _, rfl⟩, h2, trivial, zmeth (cM := cm_X8_count _) (bl := bl_X8_count) (ret := rI) hI (by decide) fl_X8 ll_X8 (lf_X8_count _) bk_X8_count (Nat.le_of_ble_eq_true rfl) hv (fun hF => (zml_cons (zcv hF ⟨Nat.le_refl _, Nat.le_refl _⟩ rfl (tw4 (i := 232) rfl) k_X8_stepsAll ⟨by decide, by decide⟩ (a_X8_stepsAll hI _)) (zml_cons (zcv hF ⟨Nat.le_refl _, Nat.le_refl _⟩ rfl (tw4 (i := 224) rfl) k_X8_notWith ⟨by decide, by decide⟩ (a_X8_notWith hI _)) zml_nil))) (fun hF hr hk => zrt_I hF hr hk) h3⟩
def bl_X8_undo : ZBl := [(0, none, [(.aload_n 0, 1, 0, []), (.getfield 57, 3, 0, []), (.ifCond .ne 6, 3, 10, [])]), (7, none, [(.bipush (-5), 2, 0, []), (.ireturn, 1, 0, [])]), (10, none, [(.aload_n 0, 1, 0, []), (.dup, 1, 0, []), (.getfield 57, 3, 0, []), (.iconst 1, 1, 0, []), (.isub, 1, 0, []), (.putfield 57, 3, 0, []), (.aload_n 0, 1, 0, []), (.getfield 13, 3, 0, []), (.aload_n 0, 1, 0, []), (.getfield 57, 3, 0, []), (.bipush 53, 2, 0, []), (.imul, 1, 0, []), (.aload_n 0, 1, 0, []), (.getfield 7, 3, 0, []), (.iconst 0, 1, 0, []), (.invokestatic 61, 3, 0, []), (.aload_n 0, 1, 0, []), (.getfield 57, 3, 0, []), (.ireturn, 1, 0, [])])]
set_option maxRecDepth 20000 in
theorem bk_X8_undo : zdb cX8_undo 1 bl_X8_undo = true := by decide +kernel
noncomputable def cm_X8_undo (ρ : Type) : List (Nat × Nat × ZCall ρ) := [(123, 4, cV g_X8_copies)]
theorem lf_X8_undo (ρ : Type) : LfM (cm_X8_undo ρ) := lfm_of (lfm_cons (lfc_V g_X8_copies) lfm_n)
noncomputable def x_X8_undo : ZJ (Int32 × Wd) := zev cF_X8 cL_X8 bl_X8_undo (cm_X8_undo (Int32 × Wd)) rI
noncomputable def f_X8_undo (k0 : Nat) (w : Wd) : Option (Int32 × Wd) := x_X8_undo 0 [] [some (zr 8 k0)] w
noncomputable def g_X8_undo (r : List ZV) (w : Wd) : Option (Int32 × Wd) := pR r fun tk0 k0 r => zif (Nat.beq tk0 8) (pE r (f_X8_undo k0 w))
set_option maxRecDepth 20000 in
theorem e_X8_undo (k0 : Nat) (w : Wd) : f_X8_undo k0 w = (if (w.1 8 k0 2) = 0 then (some ((Int32.ofInt (-5)), w)) else (oC (f_X8_copies 1 (((wI w 8 k0 2 ((w.1 8 k0 2) - (Int32.ofInt 1))).1 8 k0 2) * (Int32.ofInt 53)) 0 (Int32.ofInt 0) (wI w 8 k0 2 ((w.1 8 k0 2) - (Int32.ofInt 1)))) fun q1 => (some ((q1.1 8 k0 2), q1)))) := (zev_eq (lf_X8_undo _) _ _ _ _).trans rfl
theorem k_X8_undo : zLkV yX8_undo cX8_undo 1 (some .int) 8 0 := ⟨(tw4 (i := 237) rfl), (tw4 (i := 238) rfl), (tw1 (i := 9) rfl), (tw4 (i := 239) rfl), ⟨_, _, rfl⟩, rfl, by decide, by decide, by decide +kernel⟩
set_option maxHeartbeats 4000000 in
set_option maxRecDepth 20000 in
theorem a_X8_undo {l : Launch} {D : va_G} {ad : Nat → Nat → Nat} {cA : Nat → ClassId} (hI : zInj ad) {ρ : Type} (X : ρ) : zAns l D ad cA yX8_undo cX8_undo 1 (some .int) 1 24 X (fun as => ∃ i as', as = zr 8 i :: as') (cI g_X8_undo) := by
  intro as w Kf hv h
  obtain ⟨q, h1, h2⟩ := oC_inv h
  unfold g_X8_undo at h1
  obtain ⟨tk0, k0, r, rfl, h1_1⟩ := pR_inv h1
  obtain ⟨bk0, h1_1z⟩ := zif_inv h1_1
  cases Nat.eq_of_beq_eq_true bk0
  obtain ⟨rfl, h3⟩ := pE_inv h1_1z
  exact ⟨_, _, ⟨_, _, rfl⟩, h2, trivial, zmeth (cM := cm_X8_undo _) (bl := bl_X8_undo) (ret := rI) hI (by decide) fl_X8 ll_X8 (lf_X8_undo _) bk_X8_undo (Nat.le_of_ble_eq_true rfl) hv (fun hF => (zml_cons (zcs hF ⟨Nat.le_refl _, Nat.le_refl _⟩ rfl (tw4 (i := 59) rfl) k_X8_copies ⟨by decide, by decide⟩ (a_X8_copies hI _)) zml_nil)) (fun hF hr hk => zrt_I hF hr hk) h3⟩
def bl_X8_save : ZBl := [(0, none, [(.iload_n 1, 1, 0, []), (.iconst 0, 1, 0, []), (.iconst 1, 1, 0, []), (.invokestatic 65, 3, 0, []), (.ifCond .ne 6, 3, 12, [])]), (9, none, [(.bipush (-2), 2, 0, []), (.ireturn, 1, 0, [])]), (12, none, [(.aload_n 0, 1, 0, []), (.getfield 7, 3, 0, []), (.iconst 0, 1, 0, []), (.aload_n 0, 1, 0, []), (.getfield 16, 3, 0, []), (.bipush 53, 2, 0, []), (.iload_n 1, 1, 0, []), (.imul, 1, 0, []), (.invokestatic 61, 3, 0, []), (.aload_n 0, 1, 0, []), (.dup, 1, 0, []), (.getfield 194, 3, 0, []), (.iconst 1, 1, 0, []), (.iload_n 1, 1, 0, []), (.ishl, 1, 0, []), (.ior, 1, 0, []), (.putfield 194, 3, 0, []), (.aload_n 0, 1, 0, []), (.invokevirtual 191, 3, 0, []), (.ireturn, 1, 0, [])])]
set_option maxRecDepth 20000 in
theorem bk_X8_save : zdb cX8_save 2 bl_X8_save = true := by decide +kernel
noncomputable def cm_X8_save (ρ : Type) : List (Nat × Nat × ZCall ρ) := [(131, 3, cI g_X8_in), (123, 4, cV g_X8_copies), (382, 1, cI g_X8_stepsAll)]
theorem lf_X8_save (ρ : Type) : LfM (cm_X8_save ρ) := lfm_of (lfm_cons (lfc_I g_X8_in) (lfm_cons (lfc_V g_X8_copies) (lfm_cons (lfc_I g_X8_stepsAll) lfm_n)))
noncomputable def x_X8_save : ZJ (Int32 × Wd) := zev cF_X8 cL_X8 bl_X8_save (cm_X8_save (Int32 × Wd)) rI
noncomputable def f_X8_save (k0 : Nat) (x1 : Int32) (w : Wd) : Option (Int32 × Wd) := x_X8_save 0 [] [some (zr 8 k0), some (zi x1)] w
noncomputable def g_X8_save (r : List ZV) (w : Wd) : Option (Int32 × Wd) := pR r fun tk0 k0 r => zif (Nat.beq tk0 8) (pI r fun x1 r => pE r (f_X8_save k0 x1 w))
set_option maxRecDepth 20000 in
theorem e_X8_save (k0 : Nat) (x1 : Int32) (w : Wd) : f_X8_save k0 x1 w = (oC (f_X8_in x1 (Int32.ofInt 0) (Int32.ofInt 1) w) fun q1 => (if q1.1 = 0 then (some ((Int32.ofInt (-2)), q1.2)) else (oC (f_X8_copies 0 (Int32.ofInt 0) 2 ((Int32.ofInt 53) * x1) q1.2) fun q2 => (oC (f_X8_stepsAll k0 (wI q2 8 k0 4 ((q2.1 8 k0 4) ||| ((Int32.ofInt 1) <<< (x1 &&& 31))))) fun q3 => (some (q3.1, q3.2)))))) := (zev_eq (lf_X8_save _) _ _ _ _).trans rfl
theorem k_X8_save : zLkV yX8_save cX8_save 2 (some .int) 8 1 := ⟨(tw5 (i := 1) rfl), (tw5 (i := 2) rfl), (tw1 (i := 9) rfl), (tw5 (i := 3) rfl), ⟨_, _, rfl⟩, rfl, by decide, by decide, by decide +kernel⟩
set_option maxHeartbeats 4000000 in
set_option maxRecDepth 20000 in
theorem a_X8_save {l : Launch} {D : va_G} {ad : Nat → Nat → Nat} {cA : Nat → ClassId} (hI : zInj ad) {ρ : Type} (X : ρ) : zAns l D ad cA yX8_save cX8_save 2 (some .int) 1 24 X (fun as => ∃ i as', as = zr 8 i :: as') (cI g_X8_save) := by
  intro as w Kf hv h
  obtain ⟨q, h1, h2⟩ := oC_inv h
  unfold g_X8_save at h1
  obtain ⟨tk0, k0, r, rfl, h1_1⟩ := pR_inv h1
  obtain ⟨bk0, h1_1z⟩ := zif_inv h1_1
  cases Nat.eq_of_beq_eq_true bk0
  obtain ⟨x1, r, rfl, h1_2⟩ := pI_inv h1_1z
  obtain ⟨rfl, h3⟩ := pE_inv h1_2
  exact ⟨_, _, ⟨_, _, rfl⟩, h2, trivial, zmeth (cM := cm_X8_save _) (bl := bl_X8_save) (ret := rI) hI (by decide) fl_X8 ll_X8 (lf_X8_save _) bk_X8_save (Nat.le_of_ble_eq_true rfl) hv (fun hF => (zml_cons (zcs hF ⟨Nat.le_refl _, Nat.le_refl _⟩ rfl (tw4 (i := 34) rfl) k_X8_in ⟨by decide, by decide⟩ (a_X8_in hI _)) (zml_cons (zcs hF ⟨Nat.le_refl _, Nat.le_refl _⟩ rfl (tw4 (i := 59) rfl) k_X8_copies ⟨by decide, by decide⟩ (a_X8_copies hI _)) (zml_cons (zcv hF ⟨Nat.le_refl _, Nat.le_refl _⟩ rfl (tw4 (i := 232) rfl) k_X8_stepsAll ⟨by decide, by decide⟩ (a_X8_stepsAll hI _)) zml_nil)))) (fun hF hr hk => zrt_I hF hr hk) h3⟩
def bl_X8_restore : ZBl := [(0, none, [(.iload_n 1, 1, 0, []), (.iconst 0, 1, 0, []), (.iconst 1, 1, 0, []), (.invokestatic 65, 3, 0, []), (.ifCond .ne 6, 3, 12, [])]), (9, none, [(.bipush (-2), 2, 0, []), (.ireturn, 1, 0, [])]), (12, none, [(.aload_n 0, 1, 0, []), (.getfield 194, 3, 0, []), (.iload_n 1, 1, 0, []), (.ishr, 1, 0, []), (.iconst 1, 1, 0, []), (.iand, 1, 0, []), (.ifCond .ne 6, 3, 26, [])]), (23, none, [(.bipush (-5), 2, 0, []), (.ireturn, 1, 0, [])]), (26, none, [(.aload_n 0, 1, 0, []), (.aload_n 0, 1, 0, []), (.getfield 7, 3, 0, []), (.invokevirtual 92, 3, 0, []), (.aload_n 0, 1, 0, []), (.getfield 16, 3, 0, []), (.bipush 53, 2, 0, []), (.iload_n 1, 1, 0, []), (.imul, 1, 0, []), (.aload_n 0, 1, 0, []), (.getfield 7, 3, 0, []), (.iconst 0, 1, 0, []), (.invokestatic 61, 3, 0, []), (.aload_n 0, 1, 0, []), (.invokevirtual 191, 3, 0, []), (.ireturn, 1, 0, [])])]
set_option maxRecDepth 20000 in
theorem bk_X8_restore : zdb cX8_restore 2 bl_X8_restore = true := by decide +kernel
noncomputable def cm_X8_restore (ρ : Type) : List (Nat × Nat × ZCall ρ) := [(131, 3, cI g_X8_in), (184, 2, cV g_X8_records), (123, 4, cV g_X8_copies), (382, 1, cI g_X8_stepsAll)]
theorem lf_X8_restore (ρ : Type) : LfM (cm_X8_restore ρ) := lfm_of (lfm_cons (lfc_I g_X8_in) (lfm_cons (lfc_V g_X8_records) (lfm_cons (lfc_V g_X8_copies) (lfm_cons (lfc_I g_X8_stepsAll) lfm_n))))
noncomputable def x_X8_restore : ZJ (Int32 × Wd) := zev cF_X8 cL_X8 bl_X8_restore (cm_X8_restore (Int32 × Wd)) rI
noncomputable def f_X8_restore (k0 : Nat) (x1 : Int32) (w : Wd) : Option (Int32 × Wd) := x_X8_restore 0 [] [some (zr 8 k0), some (zi x1)] w
noncomputable def g_X8_restore (r : List ZV) (w : Wd) : Option (Int32 × Wd) := pR r fun tk0 k0 r => zif (Nat.beq tk0 8) (pI r fun x1 r => pE r (f_X8_restore k0 x1 w))
set_option maxRecDepth 20000 in
theorem e_X8_restore (k0 : Nat) (x1 : Int32) (w : Wd) : f_X8_restore k0 x1 w = (oC (f_X8_in x1 (Int32.ofInt 0) (Int32.ofInt 1) w) fun q1 => (if q1.1 = 0 then (some ((Int32.ofInt (-2)), q1.2)) else (if (((q1.2.1 8 k0 4) >>> (x1 &&& 31)) &&& (Int32.ofInt 1)) = 0 then (some ((Int32.ofInt (-5)), q1.2)) else (oC (f_X8_records k0 0 q1.2) fun q2 => (oC (f_X8_copies 2 ((Int32.ofInt 53) * x1) 0 (Int32.ofInt 0) q2) fun q3 => (oC (f_X8_stepsAll k0 q3) fun q4 => (some (q4.1, q4.2)))))))) := (zev_eq (lf_X8_restore _) _ _ _ _).trans rfl
theorem k_X8_restore : zLkV yX8_restore cX8_restore 2 (some .int) 8 1 := ⟨(tw5 (i := 5) rfl), (tw5 (i := 6) rfl), (tw1 (i := 9) rfl), (tw5 (i := 7) rfl), ⟨_, _, rfl⟩, rfl, by decide, by decide, by decide +kernel⟩
set_option maxHeartbeats 4000000 in
set_option maxRecDepth 20000 in
theorem a_X8_restore {l : Launch} {D : va_G} {ad : Nat → Nat → Nat} {cA : Nat → ClassId} (hI : zInj ad) {ρ : Type} (X : ρ) : zAns l D ad cA yX8_restore cX8_restore 2 (some .int) 2 46 X (fun as => ∃ i as', as = zr 8 i :: as') (cI g_X8_restore) := by
  intro as w Kf hv h
  obtain ⟨q, h1, h2⟩ := oC_inv h
  unfold g_X8_restore at h1
  obtain ⟨tk0, k0, r, rfl, h1_1⟩ := pR_inv h1
  obtain ⟨bk0, h1_1z⟩ := zif_inv h1_1
  cases Nat.eq_of_beq_eq_true bk0
  obtain ⟨x1, r, rfl, h1_2⟩ := pI_inv h1_1z
  obtain ⟨rfl, h3⟩ := pE_inv h1_2
  exact ⟨_, _, ⟨_, _, rfl⟩, h2, trivial, zmeth (cM := cm_X8_restore _) (bl := bl_X8_restore) (ret := rI) hI (by decide) fl_X8 ll_X8 (lf_X8_restore _) bk_X8_restore (Nat.le_of_ble_eq_true rfl) hv (fun hF => (zml_cons (zcs hF ⟨Nat.le_refl _, Nat.le_refl _⟩ rfl (tw4 (i := 34) rfl) k_X8_in ⟨by decide, by decide⟩ (a_X8_in hI _)) (zml_cons (zcv hF ⟨Nat.le_refl _, Nat.le_refl _⟩ rfl (tw4 (i := 70) rfl) k_X8_records ⟨by decide, by decide⟩ (a_X8_records hI _)) (zml_cons (zcs hF ⟨Nat.le_refl _, Nat.le_refl _⟩ rfl (tw4 (i := 59) rfl) k_X8_copies ⟨by decide, by decide⟩ (a_X8_copies hI _)) (zml_cons (zcv hF ⟨Nat.le_refl _, Nat.le_refl _⟩ rfl (tw4 (i := 232) rfl) k_X8_stepsAll ⟨by decide, by decide⟩ (a_X8_stepsAll hI _)) zml_nil))))) (fun hF hr hk => zrt_I hF hr hk) h3⟩
