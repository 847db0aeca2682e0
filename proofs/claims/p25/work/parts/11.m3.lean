def bl_X3_clear : ZBl := [(0, none, [(.aload_n 0, 1, 0, []), (.iconst 0, 1, 0, []), (.putfield 15, 3, 0, []), (.return_, 1, 0, [])])]
set_option maxRecDepth 20000 in
theorem bk_X3_clear : zdb cX3_clear 1 bl_X3_clear = true := by decide +kernel
noncomputable def cm_X3_clear (ρ : Type) : List (Nat × Nat × ZCall ρ) := []
theorem lf_X3_clear (ρ : Type) : LfM (cm_X3_clear ρ) := lfm_of lfm_n
noncomputable def x_X3_clear : ZJ Wd := zev cF_X3 cL_X3 bl_X3_clear (cm_X3_clear Wd) rV
noncomputable def f_X3_clear (k0 : Nat) (w : Wd) : Option Wd := x_X3_clear 0 [] [some (zr 3 k0)] w
noncomputable def g_X3_clear (r : List ZV) (w : Wd) : Option Wd := pR r fun tk0 k0 r => zif (Nat.beq tk0 3) (pE r (f_X3_clear k0 w))
set_option maxRecDepth 20000 in
theorem e_X3_clear (k0 : Nat) (w : Wd) : f_X3_clear k0 w = (some (wI w 3 k0 1 (Int32.ofInt 0))) := (zev_eq (lf_X3_clear _) _ _ _ _).trans rfl
theorem k_X3_clear : zLkV yX3_clear cX3_clear 1 none 3 0 := ⟨(tw2 (i := 68) rfl), (tw2 (i := 69) rfl), (tw1 (i := 5) rfl), (tw2 (i := 70) rfl), ⟨_, _, rfl⟩, rfl, by decide, by decide, by decide +kernel⟩
set_option maxHeartbeats 4000000 in
set_option maxRecDepth 20000 in
theorem a_X3_clear {l : Launch} {D : va_G} {ad : Nat → Nat → Nat} {cA : Nat → ClassId} (hI : zInj ad) {ρ : Type} (X : ρ) : zAns l D ad cA yX3_clear cX3_clear 1 none 0 0 X (fun as => ∃ i as', as = zr 3 i :: as') (cV g_X3_clear) := by
  intro as w Kf hv h
  obtain ⟨q, h1, h2⟩ := oC_inv h
  unfold g_X3_clear at h1
  obtain ⟨tk0, k0, r, rfl, h1_1⟩ := pR_inv h1
  obtain ⟨bk0, h1_1z⟩ := zif_inv h1_1
  cases Nat.eq_of_beq_eq_true bk0
  obtain ⟨rfl, h3⟩ := pE_inv h1_1z
  exact ⟨_, _, ⟨_, _, rfl⟩, h2, trivial, zmeth (cM := cm_X3_clear _) (bl := bl_X3_clear) (ret := rV) hI (by decide) fl_X3 ll_X3 (lf_X3_clear _) bk_X3_clear (Nat.le_of_ble_eq_true rfl) hv (fun hF => zml_nil) (fun hF hr hk => zrt_V hF hr hk) h3⟩
def bl_X3_append : ZBl := [(0, none, [(.aload_n 0, 1, 0, []), (.getfield 15, 3, 0, []), (.bipush 24, 2, 0, []), (.if_icmp .ge 23, 3, 29, [])]), (9, none, [(.aload_n 0, 1, 0, []), (.getfield 9, 3, 0, []), (.aload_n 0, 1, 0, []), (.getfield 15, 3, 0, []), (.iload_n 1, 1, 0, []), (.iastore, 1, 0, []), (.aload_n 0, 1, 0, []), (.dup, 1, 0, []), (.getfield 15, 3, 0, []), (.iconst 1, 1, 0, []), (.iadd, 1, 0, []), (.putfield 15, 3, 0, [])]), (29, none, [(.return_, 1, 0, [])])]
set_option maxRecDepth 20000 in
theorem bk_X3_append : zdb cX3_append 2 bl_X3_append = true := by decide +kernel
noncomputable def cm_X3_append (ρ : Type) : List (Nat × Nat × ZCall ρ) := []
theorem lf_X3_append (ρ : Type) : LfM (cm_X3_append ρ) := lfm_of lfm_n
noncomputable def x_X3_append : ZJ Wd := zev cF_X3 cL_X3 bl_X3_append (cm_X3_append Wd) rV
noncomputable def f_X3_append (k0 : Nat) (x1 : Int32) (w : Wd) : Option Wd := x_X3_append 0 [] [some (zr 3 k0), some (zi x1)] w
noncomputable def g_X3_append (r : List ZV) (w : Wd) : Option Wd := pR r fun tk0 k0 r => zif (Nat.beq tk0 3) (pI r fun x1 r => pE r (f_X3_append k0 x1 w))
set_option maxRecDepth 20000 in
theorem e_X3_append (k0 : Nat) (x1 : Int32) (w : Wd) : f_X3_append k0 x1 w = (if (Int32.ofInt 24) ≤ (w.1 3 k0 1) then (some w) else (chk (w.1 3 k0 1) 24 (some (wI (wI w 13 k0 (w.1 3 k0 1).toNatClampNeg x1) 3 k0 1 (((wI w 13 k0 (w.1 3 k0 1).toNatClampNeg x1).1 3 k0 1) + (Int32.ofInt 1)))))) := (zev_eq (lf_X3_append _) _ _ _ _).trans rfl
theorem k_X3_append : zLkV yX3_append cX3_append 2 none 3 1 := ⟨(tw3 (i := 7) rfl), (tw3 (i := 8) rfl), (tw1 (i := 5) rfl), (tw3 (i := 9) rfl), ⟨_, _, rfl⟩, rfl, by decide, by decide, by decide +kernel⟩
set_option maxHeartbeats 4000000 in
set_option maxRecDepth 20000 in
theorem a_X3_append {l : Launch} {D : va_G} {ad : Nat → Nat → Nat} {cA : Nat → ClassId} (hI : zInj ad) {ρ : Type} (X : ρ) : zAns l D ad cA yX3_append cX3_append 2 none 0 0 X (fun as => ∃ i as', as = zr 3 i :: as') (cV g_X3_append) := by
  intro as w Kf hv h
  obtain ⟨q, h1, h2⟩ := oC_inv h
  unfold g_X3_append at h1
  obtain ⟨tk0, k0, r, rfl, h1_1⟩ := pR_inv h1
  obtain ⟨bk0, h1_1z⟩ := zif_inv h1_1
  cases Nat.eq_of_beq_eq_true bk0
  obtain ⟨x1, r, rfl, h1_2⟩ := pI_inv h1_1z
  obtain ⟨rfl, h3⟩ := pE_inv h1_2
  exact ⟨_, _, ⟨_, _, rfl⟩, h2, trivial, zmeth (cM := cm_X3_append _) (bl := bl_X3_append) (ret := rV) hI (by decide) fl_X3 ll_X3 (lf_X3_append _) bk_X3_append (Nat.le_of_ble_eq_true rfl) hv (fun hF => zml_nil) (fun hF hr hk => zrt_V hF hr hk) h3⟩
def bl_X3_readRun : ZBl := [(0, none, [(.aload_n 0, 1, 0, []), (.invokevirtual 25, 3, 0, []), (.iconst 0, 1, 0, []), (.istore_n 2, 1, 0, [])]), (6, some [true, true, true], [(.iload_n 2, 1, 0, []), (.aload_n 1, 1, 0, []), (.invokevirtual 28, 3, 0, []), (.if_icmp .ge 18, 3, 29, [])]), (14, none, [(.aload_n 0, 1, 0, []), (.aload_n 1, 1, 0, []), (.iload_n 2, 1, 0, []), (.invokevirtual 33, 3, 0, []), (.invokevirtual 37, 3, 0, []), (.iinc 2 1, 3, 0, []), (.goto (-20), 3, 6, [])]), (29, none, [(.return_, 1, 0, [])])]
set_option maxRecDepth 20000 in
theorem bk_X3_readRun : zdb cX3_readRun 3 bl_X3_readRun = true := by decide +kernel
noncomputable def cm_X3_readRun (ρ : Type) : List (Nat × Nat × ZCall ρ) := [(50, 1, cV g_X3_clear), (56, 1, cI g_X1_length), (66, 2, cI g_X1_digitAt), (74, 2, cV g_X3_append)]
theorem lf_X3_readRun (ρ : Type) : LfM (cm_X3_readRun ρ) := lfm_of (lfm_cons (lfc_V g_X3_clear) (lfm_cons (lfc_I g_X1_length) (lfm_cons (lfc_I g_X1_digitAt) (lfm_cons (lfc_V g_X3_append) lfm_n))))
noncomputable def x_X3_readRun : ZJ Wd := zev cF_X3 cL_X3 bl_X3_readRun (cm_X3_readRun Wd) rV
noncomputable def f_X3_readRun (k0 : Nat) (k1 : Nat) (w : Wd) : Option Wd := x_X3_readRun 0 [] [some (zr 3 k0), some (zr 1 k1), none] w
noncomputable def g_X3_readRun (r : List ZV) (w : Wd) : Option Wd := pR r fun tk0 k0 r => zif (Nat.beq tk0 3) (pR r fun tk1 k1 r => zif (Nat.beq tk1 1) (pE r (f_X3_readRun k0 k1 w)))
set_option maxRecDepth 20000 in
theorem e_X3_readRun (k0 : Nat) (k1 : Nat) (w : Wd) : f_X3_readRun k0 k1 w = (oC (f_X3_clear k0 w) fun q1 => (x_X3_readRun 6 [] [some (zr 3 k0), some (zr 1 k1), some (zi (Int32.ofInt 0))] q1)) := (zev_eq (lf_X3_readRun _) _ _ _ _).trans rfl
set_option maxRecDepth 20000 in
theorem e_X3_readRun_6 (k0 : Nat) (k1 : Nat) (x2 : Int32) (w : Wd) : x_X3_readRun 6 [] [some (zr 3 k0), some (zr 1 k1), some (zi x2)] w = (oC (f_X1_length k1 w) fun q1 => (if q1.1 ≤ x2 then (some q1.2) else (oC (f_X1_digitAt k1 x2 q1.2) fun q2 => (oC (f_X3_append k0 q2.1 q2.2) fun q3 => (x_X3_readRun 6 [] [some (zr 3 k0), some (zr 1 k1), some (zi (x2 + (Int32.ofInt 1)))] q3))))) := (zev_eq (lf_X3_readRun _) _ _ _ _).trans rfl
theorem k_X3_readRun : zLkV yX3_readRun cX3_readRun 3 none 3 1 := ⟨(tw3 (i := 0) rfl), (tw3 (i := 1) rfl), (tw1 (i := 5) rfl), (tw3 (i := 2) rfl), ⟨_, _, rfl⟩, rfl, by decide, by decide, by decide +kernel⟩
set_option maxHeartbeats 4000000 in
set_option maxRecDepth 20000 in
theorem a_X3_readRun {l : Launch} {D : va_G} {ad : Nat → Nat → Nat} {cA : Nat → ClassId} (hI : zInj ad) {ρ : Type} (X : ρ) : zAns l D ad cA yX3_readRun cX3_readRun 3 none 2 42 X (fun as => ∃ i as', as = zr 3 i :: as') (cV g_X3_readRun) := by
  intro as w Kf hv h
  obtain ⟨q, h1, h2⟩ := oC_inv h
  unfold g_X3_readRun at h1
  obtain ⟨tk0, k0, r, rfl, h1_1⟩ := pR_inv h1
  obtain ⟨bk0, h1_1z⟩ := zif_inv h1_1
  cases Nat.eq_of_beq_eq_true bk0
  obtain ⟨tk1, k1, r, rfl, h1_2⟩ := pR_inv h1_1z
  obtain ⟨bk1, h1_2z⟩ := zif_inv h1_2
  cases Nat.eq_of_beq_eq_true bk1
  obtain ⟨rfl, h3⟩ := pE_inv h1_2z
  exact ⟨_, _, ⟨_, _, rfl⟩, h2, trivial, zmeth (cM := cm_X3_readRun _) (bl := bl_X3_readRun) (ret := rV) hI (by decide) fl_X3 ll_X3 (lf_X3_readRun _) bk_X3_readRun (Nat.le_of_ble_eq_true rfl) hv (fun hF => (zml_cons (zcv hF ⟨Nat.le_refl _, Nat.le_refl _⟩ rfl (tw3 (i := 3) rfl) k_X3_clear ⟨by decide, by decide⟩ (a_X3_clear hI _)) (zml_cons (zcv hF ⟨Nat.le_refl _, Nat.le_refl _⟩ rfl (tw3 (i := 4) rfl) k_X1_length ⟨by decide, by decide⟩ (a_X1_length hI _)) (zml_cons (zcv hF ⟨Nat.le_refl _, Nat.le_refl _⟩ rfl (tw3 (i := 5) rfl) k_X1_digitAt ⟨by decide, by decide⟩ (a_X1_digitAt hI _)) (zml_cons (zcv hF ⟨Nat.le_refl _, Nat.le_refl _⟩ rfl (tw3 (i := 6) rfl) k_X3_append ⟨by decide, by decide⟩ (a_X3_append hI _)) zml_nil))))) (fun hF hr hk => zrt_V hF hr hk) h3⟩
def bl_X3_sameAs : ZBl := [(0, none, [(.aload_n 0, 1, 0, []), (.getfield 15, 3, 0, []), (.aload_n 1, 1, 0, []), (.getfield 15, 3, 0, []), (.if_icmp .eq 5, 3, 13, [])]), (11, none, [(.iconst 0, 1, 0, []), (.ireturn, 1, 0, [])]), (13, none, [(.iconst 0, 1, 0, []), (.istore_n 2, 1, 0, [])]), (15, some [true, true, true], [(.iload_n 2, 1, 0, []), (.aload_n 0, 1, 0, []), (.getfield 15, 3, 0, []), (.if_icmp .ge 26, 3, 46, [])]), (23, none, [(.aload_n 0, 1, 0, []), (.getfield 9, 3, 0, []), (.iload_n 2, 1, 0, []), (.iaload, 1, 0, []), (.aload_n 1, 1, 0, []), (.getfield 9, 3, 0, []), (.iload_n 2, 1, 0, []), (.iaload, 1, 0, []), (.if_icmp .eq 5, 3, 40, [])]), (38, none, [(.iconst 0, 1, 0, []), (.ireturn, 1, 0, [])]), (40, none, [(.iinc 2 1, 3, 0, []), (.goto (-28), 3, 15, [])]), (46, none, [(.iconst 1, 1, 0, []), (.ireturn, 1, 0, [])])]
set_option maxRecDepth 20000 in
theorem bk_X3_sameAs : zdb cX3_sameAs 3 bl_X3_sameAs = true := by decide +kernel
noncomputable def cm_X3_sameAs (ρ : Type) : List (Nat × Nat × ZCall ρ) := []
theorem lf_X3_sameAs (ρ : Type) : LfM (cm_X3_sameAs ρ) := lfm_of lfm_n
noncomputable def x_X3_sameAs : ZJ (Int32 × Wd) := zev cF_X3 cL_X3 bl_X3_sameAs (cm_X3_sameAs (Int32 × Wd)) rZ
noncomputable def f_X3_sameAs (k0 : Nat) (k1 : Nat) (w : Wd) : Option (Int32 × Wd) := x_X3_sameAs 0 [] [some (zr 3 k0), some (zr 3 k1), none] w
noncomputable def g_X3_sameAs (r : List ZV) (w : Wd) : Option (Int32 × Wd) := pR r fun tk0 k0 r => zif (Nat.beq tk0 3) (pR r fun tk1 k1 r => zif (Nat.beq tk1 3) (pE r (f_X3_sameAs k0 k1 w)))
set_option maxRecDepth 20000 in
theorem e_X3_sameAs (k0 : Nat) (k1 : Nat) (w : Wd) : f_X3_sameAs k0 k1 w = (if (w.1 3 k0 1) = (w.1 3 k1 1) then (x_X3_sameAs 15 [] [some (zr 3 k0), some (zr 3 k1), some (zi (Int32.ofInt 0))] w) else (zb (Int32.ofInt 0) (some ((Int32.ofInt 0), w)))) := (zev_eq (lf_X3_sameAs _) _ _ _ _).trans rfl
set_option maxRecDepth 20000 in
theorem e_X3_sameAs_15 (k0 : Nat) (k1 : Nat) (x2 : Int32) (w : Wd) : x_X3_sameAs 15 [] [some (zr 3 k0), some (zr 3 k1), some (zi x2)] w = (if (w.1 3 k0 1) ≤ x2 then (zb (Int32.ofInt 1) (some ((Int32.ofInt 1), w))) else (chk x2 24 (chk x2 24 (if (w.1 13 k0 x2.toNatClampNeg) = (w.1 13 k1 x2.toNatClampNeg) then (x_X3_sameAs 15 [] [some (zr 3 k0), some (zr 3 k1), some (zi (x2 + (Int32.ofInt 1)))] w) else (zb (Int32.ofInt 0) (some ((Int32.ofInt 0), w))))))) := (zev_eq (lf_X3_sameAs _) _ _ _ _).trans rfl
theorem k_X3_sameAs : zLkV yX3_sameAs cX3_sameAs 3 (some .boolean) 3 1 := ⟨(tw3 (i := 57) rfl), (tw3 (i := 58) rfl), (tw1 (i := 5) rfl), (tw3 (i := 59) rfl), ⟨_, _, rfl⟩, rfl, by decide, by decide, by decide +kernel⟩
set_option maxHeartbeats 4000000 in
set_option maxRecDepth 20000 in
theorem a_X3_sameAs {l : Launch} {D : va_G} {ad : Nat → Nat → Nat} {cA : Nat → ClassId} (hI : zInj ad) {ρ : Type} (X : ρ) : zAns l D ad cA yX3_sameAs cX3_sameAs 3 (some .boolean) 0 0 X (fun as => ∃ i as', as = zr 3 i :: as') (cI g_X3_sameAs) := by
  intro as w Kf hv h
  obtain ⟨q, h1, h2⟩ := oC_inv h
  unfold g_X3_sameAs at h1
  obtain ⟨tk0, k0, r, rfl, h1_1⟩ := pR_inv h1
  obtain ⟨bk0, h1_1z⟩ := zif_inv h1_1
  cases Nat.eq_of_beq_eq_true bk0
  obtain ⟨tk1, k1, r, rfl, h1_2⟩ := pR_inv h1_1z
  obtain ⟨bk1, h1_2z⟩ := zif_inv h1_2
  cases Nat.eq_of_beq_eq_true bk1
  obtain ⟨rfl, h3⟩ := pE_inv h1_2z
  exact ⟨_, _, ⟨_, _, rfl⟩, h2, trivial, zmeth (cM := cm_X3_sameAs _) (bl := bl_X3_sameAs) (ret := rZ) hI (by decide) fl_X3 ll_X3 (lf_X3_sameAs _) bk_X3_sameAs (Nat.le_of_ble_eq_true rfl) hv (fun hF => zml_nil) (fun hF hr hk => zrt_Z hF hr hk) h3⟩
def bl_J7_fill_53178 : ZBl := [(0, none, [(.iconst 0, 1, 0, []), (.istore_n 2, 1, 0, []), (.aload_n 0, 1, 0, []), (.arraylength, 1, 0, []), (.istore_n 3, 1, 0, [])]), (5, some [true, true, true, true], [(.iload_n 2, 1, 0, []), (.iload_n 3, 1, 0, []), (.if_icmp .ge 13, 3, 20, [])]), (10, none, [(.aload_n 0, 1, 0, []), (.iload_n 2, 1, 0, []), (.iload_n 1, 1, 0, []), (.iastore, 1, 0, []), (.iinc 2 1, 3, 0, []), (.goto (-12), 3, 5, [])]), (20, none, [(.return_, 1, 0, [])])]
set_option maxRecDepth 20000 in
theorem bk_J7_fill_53178 : zdb cJ7_fill_53178 4 bl_J7_fill_53178 = true := by decide +kernel
noncomputable def cm_J7_fill_53178 (ρ : Type) : List (Nat × Nat × ZCall ρ) := []
theorem lf_J7_fill_53178 (ρ : Type) : LfM (cm_J7_fill_53178 ρ) := lfm_of lfm_n
noncomputable def x_J7_fill_53178 : ZJ Wd := zev cF_J7 cL_J7 bl_J7_fill_53178 (cm_J7_fill_53178 Wd) rV
noncomputable def f_J7_fill_53178 (k0 : Nat) (x1 : Int32) (w : Wd) : Option Wd := x_J7_fill_53178 0 [] [some (zr 14 k0), some (zi x1), none, none] w
noncomputable def g_J7_fill_53178 (r : List ZV) (w : Wd) : Option Wd := pR r fun tk0 k0 r => zif (Nat.beq tk0 14) (pI r fun x1 r => pE r (f_J7_fill_53178 k0 x1 w))
set_option maxRecDepth 20000 in
theorem e_J7_fill_53178 (k0 : Nat) (x1 : Int32) (w : Wd) : f_J7_fill_53178 k0 x1 w = (x_J7_fill_53178 5 [] [some (zr 14 k0), some (zi x1), some (zi (Int32.ofInt 0)), some (zi (Int32.ofNat (if k0 = 0 then 4 else 4096)))] w) := (zev_eq (lf_J7_fill_53178 _) _ _ _ _).trans rfl
set_option maxRecDepth 20000 in
theorem e_J7_fill_53178_5 (k0 : Nat) (x1 : Int32) (x2 : Int32) (x3 : Int32) (w : Wd) : x_J7_fill_53178 5 [] [some (zr 14 k0), some (zi x1), some (zi x2), some (zi x3)] w = (if x3 ≤ x2 then (some w) else (chk x2 (if k0 = 0 then 4 else 4096) (x_J7_fill_53178 5 [] [some (zr 14 k0), some (zi x1), some (zi (x2 + (Int32.ofInt 1))), some (zi x3)] (wI w 14 k0 x2.toNatClampNeg x1)))) := (zev_eq (lf_J7_fill_53178 _) _ _ _ _).trans rfl
theorem k_J7_fill_53178 : zLkS yJ7_fill_53178 cJ7_fill_53178 4 none 2 := ⟨(tw2 (i := 129) rfl), (tw1 (i := 10) rfl), (tw2 (i := 130) rfl), by decide, by decide, by decide +kernel⟩
set_option maxHeartbeats 4000000 in
set_option maxRecDepth 20000 in
theorem a_J7_fill_53178 {l : Launch} {D : va_G} {ad : Nat → Nat → Nat} {cA : Nat → ClassId} (hI : zInj ad) {ρ : Type} (X : ρ) : zAns l D ad cA yJ7_fill_53178 cJ7_fill_53178 4 none 0 0 X (fun _ => True) (cV g_J7_fill_53178) := by
  intro as w Kf hv h
  obtain ⟨q, h1, h2⟩ := oC_inv h
  unfold g_J7_fill_53178 at h1
  obtain ⟨tk0, k0, r, rfl, h1_1⟩ := pR_inv h1
  obtain ⟨bk0, h1_1z⟩ := zif_inv h1_1
  cases Nat.eq_of_beq_eq_true bk0
  obtain ⟨x1, r, rfl, h1_2⟩ := pI_inv h1_1z
  obtain ⟨rfl, h3⟩ := pE_inv h1_2
  exact ⟨_, _, trivial, h2, trivial, zmeth (cM := cm_J7_fill_53178 _) (bl := bl_J7_fill_53178) (ret := rV) hI (by decide) fl_J7 ll_J7 (lf_J7_fill_53178 _) bk_J7_fill_53178 (Nat.le_of_ble_eq_true rfl) hv (fun hF => zml_nil) (fun hF hr hk => zrt_V hF hr hk) h3⟩
def bl_X4_neededSteps : ZBl := [(0, none, [(.aload_n 0, 1, 0, []), (.getfield 9, 3, 0, []), (.iload_n 3, 1, 0, []), (.iaload, 1, 0, []), (.istore 4, 2, 0, [])]), (8, some [false, true, true, true, true], [(.iload 4, 2, 0, []), (.ifCond .le 28, 3, 38, [])]), (13, none, [(.iload_n 2, 1, 0, []), (.aload_n 1, 1, 0, []), (.iload_n 3, 1, 0, []), (.iload 4, 2, 0, []), (.iconst 1, 1, 0, []), (.isub, 1, 0, []), (.invokevirtual 56, 3, 0, []), (.invokestatic 74, 3, 0, []), (.ifCond .ne 6, 3, 32, [])]), (29, none, [(.iload 4, 2, 0, []), (.ireturn, 1, 0, [])]), (32, none, [(.iinc 4 (-1), 3, 0, []), (.goto (-27), 3, 8, [])]), (38, none, [(.iconst 0, 1, 0, []), (.ireturn, 1, 0, [])])]
set_option maxRecDepth 20000 in
theorem bk_X4_neededSteps : zdb cX4_neededSteps 5 bl_X4_neededSteps = true := by decide +kernel
noncomputable def cm_X4_neededSteps (ρ : Type) : List (Nat × Nat × ZCall ρ) := [(112, 3, cI g_X2_stepOf), (149, 2, cI g_X7_commute)]
theorem lf_X4_neededSteps (ρ : Type) : LfM (cm_X4_neededSteps ρ) := lfm_of (lfm_cons (lfc_I g_X2_stepOf) (lfm_cons (lfc_I g_X7_commute) lfm_n))
noncomputable def x_X4_neededSteps : ZJ (Int32 × Wd) := zev cF_X4 cL_X4 bl_X4_neededSteps (cm_X4_neededSteps (Int32 × Wd)) rI
noncomputable def f_X4_neededSteps (k0 : Nat) (k1 : Nat) (x2 : Int32) (x3 : Int32) (w : Wd) : Option (Int32 × Wd) := x_X4_neededSteps 0 [] [some (zr 4 k0), some (zr 2 k1), some (zi x2), some (zi x3), none] w
noncomputable def g_X4_neededSteps (r : List ZV) (w : Wd) : Option (Int32 × Wd) := pR r fun tk0 k0 r => zif (Nat.beq tk0 4) (pR r fun tk1 k1 r => zif (Nat.beq tk1 2) (pI r fun x2 r => pI r fun x3 r => pE r (f_X4_neededSteps k0 k1 x2 x3 w)))
set_option maxRecDepth 20000 in
theorem e_X4_neededSteps (k0 : Nat) (k1 : Nat) (x2 : Int32) (x3 : Int32) (w : Wd) : f_X4_neededSteps k0 k1 x2 x3 w = (chk x3 4 (x_X4_neededSteps 8 [] [none, some (zr 2 k1), some (zi x2), some (zi x3), some (zi (w.1 14 0 x3.toNatClampNeg))] w)) := (zev_eq (lf_X4_neededSteps _) _ _ _ _).trans rfl
set_option maxRecDepth 20000 in
theorem e_X4_neededSteps_8 (k1 : Nat) (x2 : Int32) (x3 : Int32) (x4 : Int32) (w : Wd) : x_X4_neededSteps 8 [] [none, some (zr 2 k1), some (zi x2), some (zi x3), some (zi x4)] w = (if x4 ≤ 0 then (some ((Int32.ofInt 0), w)) else (oC (f_X2_stepOf k1 x3 (x4 - (Int32.ofInt 1)) w) fun q1 => (oC (f_X7_commute x2 q1.1 q1.2) fun q2 => (if q2.1 = 0 then (some (x4, q2.2)) else (x_X4_neededSteps 8 [] [none, some (zr 2 k1), some (zi x2), some (zi x3), some (zi (x4 + (Int32.ofInt (-1))))] q2.2))))) := (zev_eq (lf_X4_neededSteps _) _ _ _ _).trans rfl
theorem k_X4_neededSteps : zLkV yX4_neededSteps cX4_neededSteps 5 (some .int) 4 3 := ⟨(tw3 (i := 34) rfl), (twp (n := 6) (List.mem_append_left _ (List.mem_of_getElem? (i := 15) rfl))), (tw1 (i := 8) rfl), (tw3 (i := 35) rfl), ⟨_, _, rfl⟩, rfl, by decide, by decide, by decide +kernel⟩
set_option maxHeartbeats 4000000 in
set_option maxRecDepth 20000 in
theorem a_X4_neededSteps {l : Launch} {D : va_G} {ad : Nat → Nat → Nat} {cA : Nat → ClassId} (hI : zInj ad) {ρ : Type} (X : ρ) : zAns l D ad cA yX4_neededSteps cX4_neededSteps 5 (some .int) 2 43 X (fun as => ∃ i as', as = zr 4 i :: as') (cI g_X4_neededSteps) := by
  intro as w Kf hv h
  obtain ⟨q, h1, h2⟩ := oC_inv h
  unfold g_X4_neededSteps at h1
  obtain ⟨tk0, k0, r, rfl, h1_1⟩ := pR_inv h1
  obtain ⟨bk0, h1_1z⟩ := zif_inv h1_1
  cases Nat.eq_of_beq_eq_true bk0
  obtain ⟨tk1, k1, r, rfl, h1_2⟩ := pR_inv h1_1z
  obtain ⟨bk1, h1_2z⟩ := zif_inv h1_2
  cases Nat.eq_of_beq_eq_true bk1
  obtain ⟨x2, r, rfl, h1_3⟩ := pI_inv h1_2z
  obtain ⟨x3, r, rfl, h1_4⟩ := pI_inv h1_3
  obtain ⟨rfl, h3⟩ := pE_inv h1_4
  exact ⟨_, _, ⟨_, _, rfl⟩, h2, trivial, zmeth (cM := cm_X4_neededSteps _) (bl := bl_X4_neededSteps) (ret := rI) hI (by decide) fl_X4 ll_X4 (lf_X4_neededSteps _) bk_X4_neededSteps (Nat.le_of_ble_eq_true rfl) hv (fun hF => (zml_cons (zcv hF ⟨Nat.le_refl _, Nat.le_refl _⟩ rfl (tw3 (i := 31) rfl) k_X2_stepOf ⟨by decide, by decide⟩ (a_X2_stepOf hI _)) (zml_cons (zcn hF ⟨Nat.le_refl _, Nat.le_refl _⟩ rfl (tw3 (i := 36) rfl) k_X7_commute ⟨by decide, by decide⟩ (a_X7_commute hI _)) zml_nil))) (fun hF hr hk => zrt_I hF hr hk) h3⟩
def bl_X7_standAfter : ZBl := [(0, none, [(.iload_n 0, 1, 0, []), (.iconst 1, 1, 0, []), (.bipush 9, 2, 0, []), (.iconst 3, 1, 0, []), (.iload_n 1, 1, 0, []), (.imul, 1, 0, []), (.isub, 1, 0, []), (.ishl, 1, 0, []), (.iadd, 1, 0, []), (.sipush 4095, 3, 0, []), (.iand, 1, 0, []), (.ireturn, 1, 0, [])])]
set_option maxRecDepth 20000 in
theorem bk_X7_standAfter : zdb cX7_standAfter 2 bl_X7_standAfter = true := by decide +kernel
noncomputable def cm_X7_standAfter (ρ : Type) : List (Nat × Nat × ZCall ρ) := []
theorem lf_X7_standAfter (ρ : Type) : LfM (cm_X7_standAfter ρ) := lfm_of lfm_n
noncomputable def x_X7_standAfter : ZJ (Int32 × Wd) := zev cF_X7 cL_X7 bl_X7_standAfter (cm_X7_standAfter (Int32 × Wd)) rI
noncomputable def f_X7_standAfter (x0 : Int32) (x1 : Int32) (w : Wd) : Option (Int32 × Wd) := x_X7_standAfter 0 [] [some (zi x0), some (zi x1)] w
noncomputable def g_X7_standAfter (r : List ZV) (w : Wd) : Option (Int32 × Wd) := pI r fun x0 r => pI r fun x1 r => pE r (f_X7_standAfter x0 x1 w)
set_option maxRecDepth 20000 in
theorem e_X7_standAfter (x0 : Int32) (x1 : Int32) (w : Wd) : f_X7_standAfter x0 x1 w = (some (((x0 + ((Int32.ofInt 1) <<< (((Int32.ofInt 9) - ((Int32.ofInt 3) * x1)) &&& 31))) &&& (Int32.ofInt 4095)), w)) := (zev_eq (lf_X7_standAfter _) _ _ _ _).trans rfl
theorem k_X7_standAfter : zLkS yX7_standAfter cX7_standAfter 2 (some .int) 2 := ⟨(tw2 (i := 163) rfl), (tw1 (i := 1) rfl), (tw2 (i := 164) rfl), by decide, by decide, by decide +kernel⟩
set_option maxHeartbeats 4000000 in
set_option maxRecDepth 20000 in
theorem a_X7_standAfter {l : Launch} {D : va_G} {ad : Nat → Nat → Nat} {cA : Nat → ClassId} (hI : zInj ad) {ρ : Type} (X : ρ) : zAns l D ad cA yX7_standAfter cX7_standAfter 2 (some .int) 0 0 X (fun _ => True) (cI g_X7_standAfter) := by
  intro as w Kf hv h
  obtain ⟨q, h1, h2⟩ := oC_inv h
  unfold g_X7_standAfter at h1
  obtain ⟨x0, r, rfl, h1_1⟩ := pI_inv h1
  obtain ⟨x1, r, rfl, h1_2⟩ := pI_inv h1_1
  obtain ⟨rfl, h3⟩ := pE_inv h1_2
  exact ⟨_, _, trivial, h2, trivial, zmeth (cM := cm_X7_standAfter _) (bl := bl_X7_standAfter) (ret := rI) hI (by decide) fl_X7 ll_X7 (lf_X7_standAfter _) bk_X7_standAfter (Nat.le_of_ble_eq_true rfl) hv (fun hF => zml_nil) (fun hF hr hk => zrt_I hF hr hk) h3⟩
def bl_X4_addStep : ZBl := [(0, none, [(.iload_n 2, 1, 0, []), (.invokestatic 52, 3, 0, []), (.ifCond .eq 18, 3, 22, [])]), (7, none, [(.aload_n 1, 1, 0, []), (.iload_n 2, 1, 0, []), (.aload_n 0, 1, 0, []), (.getfield 9, 3, 0, []), (.iload_n 2, 1, 0, []), (.iaload, 1, 0, []), (.invokevirtual 56, 3, 0, []), (.iconst (-1), 1, 0, []), (.if_icmp .ne 4, 3, 23, [])]), (22, none, [(.return_, 1, 0, [])]), (23, none, [(.aload_n 0, 1, 0, []), (.getfield 9, 3, 0, []), (.iload_n 2, 1, 0, []), (.iaload, 1, 0, []), (.istore_n 3, 1, 0, []), (.iload_n 2, 1, 0, []), (.bipush 6, 2, 0, []), (.imul, 1, 0, []), (.iload_n 3, 1, 0, []), (.iadd, 1, 0, []), (.istore 4, 2, 0, []), (.aload_n 1, 1, 0, []), (.iload_n 2, 1, 0, []), (.iload_n 3, 1, 0, []), (.invokevirtual 56, 3, 0, []), (.istore 5, 2, 0, []), (.iconst 0, 1, 0, []), (.istore 6, 2, 0, []), (.iconst 0, 1, 0, []), (.istore 7, 2, 0, [])]), (52, some [true, true, true, true, true, true, true, true, false], [(.iload 7, 2, 0, []), (.iconst 4, 1, 0, []), (.if_icmp .ge 71, 3, 126, [])]), (58, none, [(.iload 7, 2, 0, []), (.iload_n 2, 1, 0, []), (.if_icmp .ne 7, 3, 68, [])]), (64, none, [(.iload_n 3, 1, 0, []), (.goto 12, 3, 77, [])]), (68, none, [(.aload_n 0, 1, 0, []), (.aload_n 1, 1, 0, []), (.iload 5, 2, 0, []), (.iload 7, 2, 0, []), (.invokevirtual 62, 3, 0, [])]), (77, some [true, true, true, true, true, true, true, true, false], [(.istore 8, 2, 0, []), (.aload_n 0, 1, 0, []), (.getfield 15, 3, 0, []), (.iload 4, 2, 0, []), (.iconst 4, 1, 0, []), (.imul, 1, 0, []), (.iload 7, 2, 0, []), (.iadd, 1, 0, []), (.iload 8, 2, 0, []), (.iastore, 1, 0, []), (.iload 8, 2, 0, []), (.ifCond .le 25, 3, 120, [])]), (98, none, [(.iload 6, 2, 0, []), (.aload_n 0, 1, 0, []), (.getfield 18, 3, 0, []), (.iload 7, 2, 0, []), (.bipush 6, 2, 0, []), (.imul, 1, 0, []), (.iload 8, 2, 0, []), (.iadd, 1, 0, []), (.iconst 1, 1, 0, []), (.isub, 1, 0, []), (.iaload, 1, 0, []), (.invokestatic 66, 3, 0, []), (.istore 6, 2, 0, [])]), (120, none, [(.iinc 7 1, 3, 0, []), (.goto (-71), 3, 52, [])]), (126, none, [(.aload_n 0, 1, 0, []), (.getfield 18, 3, 0, []), (.iload 4, 2, 0, []), (.iload 6, 2, 0, []), (.iconst 1, 1, 0, []), (.iadd, 1, 0, []), (.iastore, 1, 0, []), (.aload_n 0, 1, 0, []), (.aload_n 0, 1, 0, []), (.getfield 31, 3, 0, []), (.iload 6, 2, 0, []), (.iconst 1, 1, 0, []), (.iadd, 1, 0, []), (.invokestatic 66, 3, 0, []), (.putfield 31, 3, 0, []), (.aload_n 0, 1, 0, []), (.getfield 9, 3, 0, []), (.iload_n 2, 1, 0, []), (.dup2, 1, 0, []), (.iaload, 1, 0, []), (.iconst 1, 1, 0, []), (.iadd, 1, 0, []), (.iastore, 1, 0, []), (.aload_n 0, 1, 0, []), (.aload_n 0, 1, 0, []), (.getfield 35, 3, 0, []), (.iload_n 2, 1, 0, []), (.invokestatic 71, 3, 0, []), (.putfield 35, 3, 0, []), (.return_, 1, 0, [])])]
set_option maxRecDepth 20000 in
theorem bk_X4_addStep : zdb cX4_addStep 9 bl_X4_addStep = true := by decide +kernel
noncomputable def cm_X4_addStep (ρ : Type) : List (Nat × Nat × ZCall ρ) := [(105, 1, cI g_X7_isThread), (112, 3, cI g_X2_stepOf), (124, 4, cI g_X4_neededSteps), (133, 2, zMaxC), (143, 2, cI g_X7_standAfter)]
theorem lf_X4_addStep (ρ : Type) : LfM (cm_X4_addStep ρ) := lfm_of (lfm_cons (lfc_I g_X7_isThread) (lfm_cons (lfc_I g_X2_stepOf) (lfm_cons (lfc_I g_X4_neededSteps) (lfm_cons lfc_max (lfm_cons (lfc_I g_X7_standAfter) lfm_n)))))
noncomputable def x_X4_addStep : ZJ Wd := zev cF_X4 cL_X4 bl_X4_addStep (cm_X4_addStep Wd) rV
noncomputable def f_X4_addStep (k0 : Nat) (k1 : Nat) (x2 : Int32) (w : Wd) : Option Wd := x_X4_addStep 0 [] [some (zr 4 k0), some (zr 2 k1), some (zi x2), none, none, none, none, none, none] w
noncomputable def g_X4_addStep (r : List ZV) (w : Wd) : Option Wd := pR r fun tk0 k0 r => zif (Nat.beq tk0 4) (pR r fun tk1 k1 r => zif (Nat.beq tk1 2) (pI r fun x2 r => pE r (f_X4_addStep k0 k1 x2 w)))
set_option maxRecDepth 20000 in
theorem e_X4_addStep (k0 : Nat) (k1 : Nat) (x2 : Int32) (w : Wd) : f_X4_addStep k0 k1 x2 w = (oC (f_X7_isThread x2 w) fun q1 => (if q1.1 = 0 then (some q1.2) else (chk x2 4 (oC (f_X2_stepOf k1 x2 (q1.2.1 14 0 x2.toNatClampNeg) q1.2) fun q2 => (if q2.1 = (Int32.ofInt (-1)) then (some q2.2) else (chk x2 4 (oC (f_X2_stepOf k1 x2 (q2.2.1 14 0 x2.toNatClampNeg) q2.2) fun q3 => (x_X4_addStep 52 [] [some (zr 4 k0), some (zr 2 k1), some (zi x2), some (zi (q2.2.1 14 0 x2.toNatClampNeg)), some (zi ((x2 * (Int32.ofInt 6)) + (q2.2.1 14 0 x2.toNatClampNeg))), some (zi q3.1), some (zi (Int32.ofInt 0)), some (zi (Int32.ofInt 0)), none] q3.2)))))))) := (zev_eq (lf_X4_addStep _) _ _ _ _).trans rfl
set_option maxRecDepth 20000 in
theorem e_X4_addStep_52 (k0 : Nat) (k1 : Nat) (x2 : Int32) (x3 : Int32) (x4 : Int32) (x5 : Int32) (x6 : Int32) (x7 : Int32) (w : Wd) : x_X4_addStep 52 [] [some (zr 4 k0), some (zr 2 k1), some (zi x2), some (zi x3), some (zi x4), some (zi x5), some (zi x6), some (zi x7), none] w = (if (Int32.ofInt 4) ≤ x7 then (chk x4 24 (chk x2 4 (chk x2 4 (oC (f_X7_standAfter ((wI (wI (wI w 16 0 x4.toNatClampNeg (x6 + (Int32.ofInt 1))) 4 k0 3 (if ((wI w 16 0 x4.toNatClampNeg (x6 + (Int32.ofInt 1))).1 4 k0 3) < (x6 + (Int32.ofInt 1)) then (x6 + (Int32.ofInt 1)) else ((wI w 16 0 x4.toNatClampNeg (x6 + (Int32.ofInt 1))).1 4 k0 3))) 14 0 x2.toNatClampNeg (((wI (wI w 16 0 x4.toNatClampNeg (x6 + (Int32.ofInt 1))) 4 k0 3 (if ((wI w 16 0 x4.toNatClampNeg (x6 + (Int32.ofInt 1))).1 4 k0 3) < (x6 + (Int32.ofInt 1)) then (x6 + (Int32.ofInt 1)) else ((wI w 16 0 x4.toNatClampNeg (x6 + (Int32.ofInt 1))).1 4 k0 3))).1 14 0 x2.toNatClampNeg) + (Int32.ofInt 1))).1 4 k0 4) x2 (wI (wI (wI w 16 0 x4.toNatClampNeg (x6 + (Int32.ofInt 1))) 4 k0 3 (if ((wI w 16 0 x4.toNatClampNeg (x6 + (Int32.ofInt 1))).1 4 k0 3) < (x6 + (Int32.ofInt 1)) then (x6 + (Int32.ofInt 1)) else ((wI w 16 0 x4.toNatClampNeg (x6 + (Int32.ofInt 1))).1 4 k0 3))) 14 0 x2.toNatClampNeg (((wI (wI w 16 0 x4.toNatClampNeg (x6 + (Int32.ofInt 1))) 4 k0 3 (if ((wI w 16 0 x4.toNatClampNeg (x6 + (Int32.ofInt 1))).1 4 k0 3) < (x6 + (Int32.ofInt 1)) then (x6 + (Int32.ofInt 1)) else ((wI w 16 0 x4.toNatClampNeg (x6 + (Int32.ofInt 1))).1 4 k0 3))).1 14 0 x2.toNatClampNeg) + (Int32.ofInt 1)))) fun q1 => (some (wI q1.2 4 k0 4 q1.1)))))) else (if x7 = x2 then (x_X4_addStep 77 [zi x3] [some (zr 4 k0), some (zr 2 k1), some (zi x2), some (zi x3), some (zi x4), some (zi x5), some (zi x6), some (zi x7), none] w) else (oC (f_X4_neededSteps k0 k1 x5 x7 w) fun q2 => (x_X4_addStep 77 [zi q2.1] [some (zr 4 k0), some (zr 2 k1), some (zi x2), some (zi x3), some (zi x4), some (zi x5), some (zi x6), some (zi x7), none] q2.2)))) := (zev_eq (lf_X4_addStep _) _ _ _ _).trans rfl
set_option maxRecDepth 20000 in
theorem e_X4_addStep_77 (s0 : Int32) (k0 : Nat) (k1 : Nat) (x2 : Int32) (x3 : Int32) (x4 : Int32) (x5 : Int32) (x6 : Int32) (x7 : Int32) (w : Wd) : x_X4_addStep 77 [zi s0] [some (zr 4 k0), some (zr 2 k1), some (zi x2), some (zi x3), some (zi x4), some (zi x5), some (zi x6), some (zi x7), none] w = (chk ((x4 * (Int32.ofInt 4)) + x7) 96 (if s0 ≤ 0 then (x_X4_addStep 52 [] [some (zr 4 k0), some (zr 2 k1), some (zi x2), some (zi x3), some (zi x4), some (zi x5), some (zi x6), some (zi (x7 + (Int32.ofInt 1))), none] (wI w 15 0 ((x4 * (Int32.ofInt 4)) + x7).toNatClampNeg s0)) else (chk (((x7 * (Int32.ofInt 6)) + s0) - (Int32.ofInt 1)) 24 (x_X4_addStep 52 [] [some (zr 4 k0), some (zr 2 k1), some (zi x2), some (zi x3), some (zi x4), some (zi x5), some (zi (if x6 < ((wI w 15 0 ((x4 * (Int32.ofInt 4)) + x7).toNatClampNeg s0).1 16 0 (((x7 * (Int32.ofInt 6)) + s0) - (Int32.ofInt 1)).toNatClampNeg) then ((wI w 15 0 ((x4 * (Int32.ofInt 4)) + x7).toNatClampNeg s0).1 16 0 (((x7 * (Int32.ofInt 6)) + s0) - (Int32.ofInt 1)).toNatClampNeg) else x6)), some (zi (x7 + (Int32.ofInt 1))), none] (wI w 15 0 ((x4 * (Int32.ofInt 4)) + x7).toNatClampNeg s0))))) := (zev_eq (lf_X4_addStep _) _ _ _ _).trans rfl
theorem k_X4_addStep : zLkV yX4_addStep cX4_addStep 9 none 4 2 := ⟨(tw3 (i := 28) rfl), (twp (n := 6) (List.mem_append_left _ (List.mem_of_getElem? (i := 14) rfl))), (tw1 (i := 8) rfl), (tw3 (i := 29) rfl), ⟨_, _, rfl⟩, rfl, by decide, by decide, by decide +kernel⟩
set_option maxHeartbeats 4000000 in
set_option maxRecDepth 20000 in
theorem a_X4_addStep {l : Launch} {D : va_G} {ad : Nat → Nat → Nat} {cA : Nat → ClassId} (hI : zInj ad) {ρ : Type} (X : ρ) : zAns l D ad cA yX4_addStep cX4_addStep 9 none 3 67 X (fun as => ∃ i as', as = zr 4 i :: as') (cV g_X4_addStep) := by
  intro as w Kf hv h
  obtain ⟨q, h1, h2⟩ := oC_inv h
  unfold g_X4_addStep at h1
  obtain ⟨tk0, k0, r, rfl, h1_1⟩ := pR_inv h1
  obtain ⟨bk0, h1_1z⟩ := zif_inv h1_1
  cases Nat.eq_of_beq_eq_true bk0
  obtain ⟨tk1, k1, r, rfl, h1_2⟩ := pR_inv h1_1z
  obtain ⟨bk1, h1_2z⟩ := zif_inv h1_2
  cases Nat.eq_of_beq_eq_true bk1
  obtain ⟨x2, r, rfl, h1_3⟩ := pI_inv h1_2z
  obtain ⟨rfl, h3⟩ := pE_inv h1_3
  exact ⟨_, _, ⟨_, _, rfl⟩, h2, trivial, zmeth (cM := cm_X4_addStep _) (bl := bl_X4_addStep) (ret := rV) hI (by decide) fl_X4 ll_X4 (lf_X4_addStep _) bk_X4_addStep (Nat.le_of_ble_eq_true rfl) hv (fun hF => (zml_cons (zcn hF ⟨Nat.le_refl _, Nat.le_refl _⟩ rfl (tw3 (i := 30) rfl) k_X7_isThread ⟨by decide, by decide⟩ (a_X7_isThread hI _)) (zml_cons (zcv hF ⟨Nat.le_refl _, Nat.le_refl _⟩ rfl (tw3 (i := 31) rfl) k_X2_stepOf ⟨by decide, by decide⟩ (a_X2_stepOf hI _)) (zml_cons (zcv hF ⟨Nat.le_refl _, Nat.le_refl _⟩ rfl (tw3 (i := 32) rfl) k_X4_neededSteps ⟨by decide, by decide⟩ (a_X4_neededSteps hI _)) (zml_cons (zcm hF ⟨Nat.le_refl _, Nat.le_refl _⟩ rfl (tw3 (i := 37) rfl) (tw3 (i := 39) rfl) ⟨by decide, by decide⟩) (zml_cons (zcn hF ⟨Nat.le_refl _, Nat.le_refl _⟩ rfl (tw3 (i := 40) rfl) k_X7_standAfter ⟨by decide, by decide⟩ (a_X7_standAfter hI _)) zml_nil)))))) (fun hF hr hk => zrt_V hF hr hk) h3⟩
def bl_X4_lookAt : ZBl := [(0, none, [(.aload_n 0, 1, 0, []), (.getfield 9, 3, 0, []), (.iconst 0, 1, 0, []), (.invokestatic 25, 3, 0, []), (.aload_n 0, 1, 0, []), (.iconst 0, 1, 0, []), (.putfield 31, 3, 0, []), (.aload_n 0, 1, 0, []), (.iconst 0, 1, 0, []), (.putfield 35, 3, 0, []), (.iconst 0, 1, 0, []), (.istore_n 3, 1, 0, [])]), (20, some [true, true, true, true], [(.iload_n 3, 1, 0, []), (.aload_n 2, 1, 0, []), (.invokevirtual 38, 3, 0, []), (.if_icmp .ge 19, 3, 44, [])]), (28, none, [(.aload_n 0, 1, 0, []), (.aload_n 1, 1, 0, []), (.aload_n 2, 1, 0, []), (.iload_n 3, 1, 0, []), (.invokevirtual 44, 3, 0, []), (.invokevirtual 48, 3, 0, []), (.iinc 3 1, 3, 0, []), (.goto (-21), 3, 20, [])]), (44, none, [(.return_, 1, 0, [])])]
set_option maxRecDepth 20000 in
theorem bk_X4_lookAt : zdb cX4_lookAt 4 bl_X4_lookAt = true := by decide +kernel
noncomputable def cm_X4_lookAt (ρ : Type) : List (Nat × Nat × ZCall ρ) := [(51, 2, cV g_J7_fill_53178), (76, 1, cI g_X3_length), (88, 2, cI g_X3_threadAt), (96, 3, cV g_X4_addStep)]
theorem lf_X4_lookAt (ρ : Type) : LfM (cm_X4_lookAt ρ) := lfm_of (lfm_cons (lfc_V g_J7_fill_53178) (lfm_cons (lfc_I g_X3_length) (lfm_cons (lfc_I g_X3_threadAt) (lfm_cons (lfc_V g_X4_addStep) lfm_n))))
noncomputable def x_X4_lookAt : ZJ Wd := zev cF_X4 cL_X4 bl_X4_lookAt (cm_X4_lookAt Wd) rV
noncomputable def f_X4_lookAt (k0 : Nat) (k1 : Nat) (k2 : Nat) (w : Wd) : Option Wd := x_X4_lookAt 0 [] [some (zr 4 k0), some (zr 2 k1), some (zr 3 k2), none] w
noncomputable def g_X4_lookAt (r : List ZV) (w : Wd) : Option Wd := pR r fun tk0 k0 r => zif (Nat.beq tk0 4) (pR r fun tk1 k1 r => zif (Nat.beq tk1 2) (pR r fun tk2 k2 r => zif (Nat.beq tk2 3) (pE r (f_X4_lookAt k0 k1 k2 w))))
set_option maxRecDepth 20000 in
theorem e_X4_lookAt (k0 : Nat) (k1 : Nat) (k2 : Nat) (w : Wd) : f_X4_lookAt k0 k1 k2 w = (oC (f_J7_fill_53178 0 (Int32.ofInt 0) w) fun q1 => (x_X4_lookAt 20 [] [some (zr 4 k0), some (zr 2 k1), some (zr 3 k2), some (zi (Int32.ofInt 0))] (wI (wI q1 4 k0 3 (Int32.ofInt 0)) 4 k0 4 (Int32.ofInt 0)))) := (zev_eq (lf_X4_lookAt _) _ _ _ _).trans rfl
set_option maxRecDepth 20000 in
theorem e_X4_lookAt_20 (k0 : Nat) (k1 : Nat) (k2 : Nat) (x3 : Int32) (w : Wd) : x_X4_lookAt 20 [] [some (zr 4 k0), some (zr 2 k1), some (zr 3 k2), some (zi x3)] w = (oC (f_X3_length k2 w) fun q1 => (if q1.1 ≤ x3 then (some q1.2) else (oC (f_X3_threadAt k2 x3 q1.2) fun q2 => (oC (f_X4_addStep k0 k1 q2.1 q2.2) fun q3 => (x_X4_lookAt 20 [] [some (zr 4 k0), some (zr 2 k1), some (zr 3 k2), some (zi (x3 + (Int32.ofInt 1)))] q3))))) := (zev_eq (lf_X4_lookAt _) _ _ _ _).trans rfl
theorem k_X4_lookAt : zLkV yX4_lookAt cX4_lookAt 4 none 4 2 := ⟨(tw3 (i := 20) rfl), (tw3 (i := 21) rfl), (tw1 (i := 8) rfl), (tw3 (i := 22) rfl), ⟨_, _, rfl⟩, rfl, by decide, by decide, by decide +kernel⟩
set_option maxHeartbeats 4000000 in
set_option maxRecDepth 20000 in
theorem a_X4_lookAt {l : Launch} {D : va_G} {ad : Nat → Nat → Nat} {cA : Nat → ClassId} (hI : zInj ad) {ρ : Type} (X : ρ) : zAns l D ad cA yX4_lookAt cX4_lookAt 4 none 4 95 X (fun as => ∃ i as', as = zr 4 i :: as') (cV g_X4_lookAt) := by
  intro as w Kf hv h
  obtain ⟨q, h1, h2⟩ := oC_inv h
  unfold g_X4_lookAt at h1
  obtain ⟨tk0, k0, r, rfl, h1_1⟩ := pR_inv h1
  obtain ⟨bk0, h1_1z⟩ := zif_inv h1_1
  cases Nat.eq_of_beq_eq_true bk0
  obtain ⟨tk1, k1, r, rfl, h1_2⟩ := pR_inv h1_1z
  obtain ⟨bk1, h1_2z⟩ := zif_inv h1_2
  cases Nat.eq_of_beq_eq_true bk1
  obtain ⟨tk2, k2, r, rfl, h1_3⟩ := pR_inv h1_2z
  obtain ⟨bk2, h1_3z⟩ := zif_inv h1_3
  cases Nat.eq_of_beq_eq_true bk2
  obtain ⟨rfl, h3⟩ := pE_inv h1_3z
  exact ⟨_, _, ⟨_, _, rfl⟩, h2, trivial, zmeth (cM := cm_X4_lookAt _) (bl := bl_X4_lookAt) (ret := rV) hI (by decide) fl_X4 ll_X4 (lf_X4_lookAt _) bk_X4_lookAt (Nat.le_of_ble_eq_true rfl) hv (fun hF => (zml_cons (zcs hF ⟨Nat.le_refl _, Nat.le_refl _⟩ rfl (tw3 (i := 23) rfl) k_J7_fill_53178 ⟨by decide, by decide⟩ (a_J7_fill_53178 hI _)) (zml_cons (zcv hF ⟨Nat.le_refl _, Nat.le_refl _⟩ rfl (tw3 (i := 24) rfl) k_X3_length ⟨by decide, by decide⟩ (a_X3_length hI _)) (zml_cons (zcv hF ⟨Nat.le_refl _, Nat.le_refl _⟩ rfl (tw3 (i := 25) rfl) k_X3_threadAt ⟨by decide, by decide⟩ (a_X3_threadAt hI _)) (zml_cons (zcv hF ⟨Nat.le_refl _, Nat.le_refl _⟩ rfl (tw3 (i := 26) rfl) k_X4_addStep ⟨by decide, by decide⟩ (a_X4_addStep hI _)) zml_nil))))) (fun hF hr hk => zrt_V hF hr hk) h3⟩
def bl_X7_doneBy : ZBl := [(0, none, [(.iload_n 0, 1, 0, []), (.bipush 9, 2, 0, []), (.iconst 3, 1, 0, []), (.iload_n 1, 1, 0, []), (.imul, 1, 0, []), (.isub, 1, 0, []), (.ishr, 1, 0, []), (.bipush 7, 2, 0, []), (.iand, 1, 0, []), (.ireturn, 1, 0, [])])]
set_option maxRecDepth 20000 in
theorem bk_X7_doneBy : zdb cX7_doneBy 2 bl_X7_doneBy = true := by decide +kernel
noncomputable def cm_X7_doneBy (ρ : Type) : List (Nat × Nat × ZCall ρ) := []
theorem lf_X7_doneBy (ρ : Type) : LfM (cm_X7_doneBy ρ) := lfm_of lfm_n
noncomputable def x_X7_doneBy : ZJ (Int32 × Wd) := zev cF_X7 cL_X7 bl_X7_doneBy (cm_X7_doneBy (Int32 × Wd)) rI
noncomputable def f_X7_doneBy (x0 : Int32) (x1 : Int32) (w : Wd) : Option (Int32 × Wd) := x_X7_doneBy 0 [] [some (zi x0), some (zi x1)] w
noncomputable def g_X7_doneBy (r : List ZV) (w : Wd) : Option (Int32 × Wd) := pI r fun x0 r => pI r fun x1 r => pE r (f_X7_doneBy x0 x1 w)
set_option maxRecDepth 20000 in
theorem e_X7_doneBy (x0 : Int32) (x1 : Int32) (w : Wd) : f_X7_doneBy x0 x1 w = (some (((x0 >>> (((Int32.ofInt 9) - ((Int32.ofInt 3) * x1)) &&& 31)) &&& (Int32.ofInt 7)), w)) := (zev_eq (lf_X7_doneBy _) _ _ _ _).trans rfl
theorem k_X7_doneBy : zLkS yX7_doneBy cX7_doneBy 2 (some .int) 2 := ⟨(tw2 (i := 151) rfl), (tw1 (i := 1) rfl), (tw2 (i := 152) rfl), by decide, by decide, by decide +kernel⟩
set_option maxHeartbeats 4000000 in
set_option maxRecDepth 20000 in
theorem a_X7_doneBy {l : Launch} {D : va_G} {ad : Nat → Nat → Nat} {cA : Nat → ClassId} (hI : zInj ad) {ρ : Type} (X : ρ) : zAns l D ad cA yX7_doneBy cX7_doneBy 2 (some .int) 0 0 X (fun _ => True) (cI g_X7_doneBy) := by
  intro as w Kf hv h
  obtain ⟨q, h1, h2⟩ := oC_inv h
  unfold g_X7_doneBy at h1
  obtain ⟨x0, r, rfl, h1_1⟩ := pI_inv h1
  obtain ⟨x1, r, rfl, h1_2⟩ := pI_inv h1_1
  obtain ⟨rfl, h3⟩ := pE_inv h1_2
  exact ⟨_, _, trivial, h2, trivial, zmeth (cM := cm_X7_doneBy _) (bl := bl_X7_doneBy) (ret := rI) hI (by decide) fl_X7 ll_X7 (lf_X7_doneBy _) bk_X7_doneBy (Nat.le_of_ble_eq_true rfl) hv (fun hF => zml_nil) (fun hF hr hk => zrt_I hF hr hk) h3⟩
def bl_X4_mayGo : ZBl := [(0, none, [(.iload_n 1, 1, 0, []), (.iload_n 2, 1, 0, []), (.invokestatic 78, 3, 0, []), (.istore_n 3, 1, 0, []), (.iload_n 3, 1, 0, []), (.aload_n 0, 1, 0, []), (.getfield 9, 3, 0, []), (.iload_n 2, 1, 0, []), (.iaload, 1, 0, []), (.if_icmp .lt 5, 3, 18, [])]), (16, none, [(.iconst 0, 1, 0, []), (.ireturn, 1, 0, [])]), (18, none, [(.iload_n 2, 1, 0, []), (.bipush 6, 2, 0, []), (.imul, 1, 0, []), (.iload_n 3, 1, 0, []), (.iadd, 1, 0, []), (.istore 4, 2, 0, []), (.iconst 0, 1, 0, []), (.istore 5, 2, 0, [])]), (29, some [true, true, false, false, true, true], [(.iload 5, 2, 0, []), (.iconst 4, 1, 0, []), (.if_icmp .ge 32, 3, 64, [])]), (35, none, [(.iload_n 1, 1, 0, []), (.iload 5, 2, 0, []), (.invokestatic 78, 3, 0, []), (.aload_n 0, 1, 0, []), (.getfield 15, 3, 0, []), (.iload 4, 2, 0, []), (.iconst 4, 1, 0, []), (.imul, 1, 0, []), (.iload 5, 2, 0, []), (.iadd, 1, 0, []), (.iaload, 1, 0, []), (.if_icmp .ge 5, 3, 58, [])]), (56, none, [(.iconst 0, 1, 0, []), (.ireturn, 1, 0, [])]), (58, none, [(.iinc 5 1, 3, 0, []), (.goto (-32), 3, 29, [])]), (64, none, [(.iconst 1, 1, 0, []), (.ireturn, 1, 0, [])])]
set_option maxRecDepth 20000 in
theorem bk_X4_mayGo : zdb cX4_mayGo 6 bl_X4_mayGo = true := by decide +kernel
noncomputable def cm_X4_mayGo (ρ : Type) : List (Nat × Nat × ZCall ρ) := [(157, 2, cI g_X7_doneBy)]
theorem lf_X4_mayGo (ρ : Type) : LfM (cm_X4_mayGo ρ) := lfm_of (lfm_cons (lfc_I g_X7_doneBy) lfm_n)
noncomputable def x_X4_mayGo : ZJ (Int32 × Wd) := zev cF_X4 cL_X4 bl_X4_mayGo (cm_X4_mayGo (Int32 × Wd)) rZ
noncomputable def f_X4_mayGo (k0 : Nat) (x1 : Int32) (x2 : Int32) (w : Wd) : Option (Int32 × Wd) := x_X4_mayGo 0 [] [some (zr 4 k0), some (zi x1), some (zi x2), none, none, none] w
noncomputable def g_X4_mayGo (r : List ZV) (w : Wd) : Option (Int32 × Wd) := pR r fun tk0 k0 r => zif (Nat.beq tk0 4) (pI r fun x1 r => pI r fun x2 r => pE r (f_X4_mayGo k0 x1 x2 w))
set_option maxRecDepth 20000 in
theorem e_X4_mayGo (k0 : Nat) (x1 : Int32) (x2 : Int32) (w : Wd) : f_X4_mayGo k0 x1 x2 w = (oC (f_X7_doneBy x1 x2 w) fun q1 => (chk x2 4 (if q1.1 < (q1.2.1 14 0 x2.toNatClampNeg) then (x_X4_mayGo 29 [] [some (zr 4 k0), some (zi x1), none, none, some (zi ((x2 * (Int32.ofInt 6)) + q1.1)), some (zi (Int32.ofInt 0))] q1.2) else (zb (Int32.ofInt 0) (some ((Int32.ofInt 0), q1.2)))))) := (zev_eq (lf_X4_mayGo _) _ _ _ _).trans rfl
set_option maxRecDepth 20000 in
theorem e_X4_mayGo_29 (k0 : Nat) (x1 : Int32) (x4 : Int32) (x5 : Int32) (w : Wd) : x_X4_mayGo 29 [] [some (zr 4 k0), some (zi x1), none, none, some (zi x4), some (zi x5)] w = (if (Int32.ofInt 4) ≤ x5 then (zb (Int32.ofInt 1) (some ((Int32.ofInt 1), w))) else (oC (f_X7_doneBy x1 x5 w) fun q1 => (chk ((x4 * (Int32.ofInt 4)) + x5) 96 (if (q1.2.1 15 0 ((x4 * (Int32.ofInt 4)) + x5).toNatClampNeg) ≤ q1.1 then (x_X4_mayGo 29 [] [some (zr 4 k0), some (zi x1), none, none, some (zi x4), some (zi (x5 + (Int32.ofInt 1)))] q1.2) else (zb (Int32.ofInt 0) (some ((Int32.ofInt 0), q1.2))))))) := (zev_eq (lf_X4_mayGo _) _ _ _ _).trans rfl
theorem k_X4_mayGo : zLkV yX4_mayGo cX4_mayGo 6 (some .boolean) 4 2 := ⟨(tw3 (i := 52) rfl), (twp (n := 6) (List.mem_append_right _ (List.mem_of_getElem? (i := 1) rfl))), (tw1 (i := 8) rfl), (tw3 (i := 53) rfl), ⟨_, _, rfl⟩, rfl, by decide, by decide, by decide +kernel⟩
set_option maxHeartbeats 4000000 in
set_option maxRecDepth 20000 in
theorem a_X4_mayGo {l : Launch} {D : va_G} {ad : Nat → Nat → Nat} {cA : Nat → ClassId} (hI : zInj ad) {ρ : Type} (X : ρ) : zAns l D ad cA yX4_mayGo cX4_mayGo 6 (some .boolean) 1 21 X (fun as => ∃ i as', as = zr 4 i :: as') (cI g_X4_mayGo) := by
  intro as w Kf hv h
  obtain ⟨q, h1, h2⟩ := oC_inv h
  unfold g_X4_mayGo at h1
  obtain ⟨tk0, k0, r, rfl, h1_1⟩ := pR_inv h1
  obtain ⟨bk0, h1_1z⟩ := zif_inv h1_1
  cases Nat.eq_of_beq_eq_true bk0
  obtain ⟨x1, r, rfl, h1_2⟩ := pI_inv h1_1z
  obtain ⟨x2, r, rfl, h1_3⟩ := pI_inv h1_2
  obtain ⟨rfl, h3⟩ := pE_inv h1_3
  exact ⟨_, _, ⟨_, _, rfl⟩, h2, trivial, zmeth (cM := cm_X4_mayGo _) (bl := bl_X4_mayGo) (ret := rZ) hI (by decide) fl_X4 ll_X4 (lf_X4_mayGo _) bk_X4_mayGo (Nat.le_of_ble_eq_true rfl) hv (fun hF => (zml_cons (zcn hF ⟨Nat.le_refl _, Nat.le_refl _⟩ rfl (tw3 (i := 54) rfl) k_X7_doneBy ⟨by decide, by decide⟩ (a_X7_doneBy hI _)) zml_nil)) (fun hF hr hk => zrt_Z hF hr hk) h3⟩
def bl_X4_longestChain : ZBl := [(0, none, [(.aload_n 0, 1, 0, []), (.getfield 31, 3, 0, []), (.ireturn, 1, 0, [])])]
set_option maxRecDepth 20000 in
theorem bk_X4_longestChain : zdb cX4_longestChain 1 bl_X4_longestChain = true := by decide +kernel
noncomputable def cm_X4_longestChain (ρ : Type) : List (Nat × Nat × ZCall ρ) := []
theorem lf_X4_longestChain (ρ : Type) : LfM (cm_X4_longestChain ρ) := lfm_of lfm_n
noncomputable def x_X4_longestChain : ZJ (Int32 × Wd) := zev cF_X4 cL_X4 bl_X4_longestChain (cm_X4_longestChain (Int32 × Wd)) rI
noncomputable def f_X4_longestChain (k0 : Nat) (w : Wd) : Option (Int32 × Wd) := x_X4_longestChain 0 [] [some (zr 4 k0)] w
noncomputable def g_X4_longestChain (r : List ZV) (w : Wd) : Option (Int32 × Wd) := pR r fun tk0 k0 r => zif (Nat.beq tk0 4) (pE r (f_X4_longestChain k0 w))
set_option maxRecDepth 20000 in
theorem e_X4_longestChain (k0 : Nat) (w : Wd) : f_X4_longestChain k0 w = (some ((w.1 4 k0 3), w)) := (zev_eq (lf_X4_longestChain _) _ _ _ _).trans rfl
theorem k_X4_longestChain : zLkV yX4_longestChain cX4_longestChain 1 (some .int) 4 0 := ⟨(tw3 (i := 65) rfl), (tw3 (i := 66) rfl), (tw1 (i := 8) rfl), (tw3 (i := 67) rfl), ⟨_, _, rfl⟩, rfl, by decide, by decide, by decide +kernel⟩
set_option maxHeartbeats 4000000 in
set_option maxRecDepth 20000 in
theorem a_X4_longestChain {l : Launch} {D : va_G} {ad : Nat → Nat → Nat} {cA : Nat → ClassId} (hI : zInj ad) {ρ : Type} (X : ρ) : zAns l D ad cA yX4_longestChain cX4_longestChain 1 (some .int) 0 0 X (fun as => ∃ i as', as = zr 4 i :: as') (cI g_X4_longestChain) := by
  intro as w Kf hv h
  obtain ⟨q, h1, h2⟩ := oC_inv h
  unfold g_X4_longestChain at h1
  obtain ⟨tk0, k0, r, rfl, h1_1⟩ := pR_inv h1
  obtain ⟨bk0, h1_1z⟩ := zif_inv h1_1
  cases Nat.eq_of_beq_eq_true bk0
  obtain ⟨rfl, h3⟩ := pE_inv h1_1z
  exact ⟨_, _, ⟨_, _, rfl⟩, h2, trivial, zmeth (cM := cm_X4_longestChain _) (bl := bl_X4_longestChain) (ret := rI) hI (by decide) fl_X4 ll_X4 (lf_X4_longestChain _) bk_X4_longestChain (Nat.le_of_ble_eq_true rfl) hv (fun hF => zml_nil) (fun hF hr hk => zrt_I hF hr hk) h3⟩
def bl_X4_leastThatMayGo : ZBl := [(0, none, [(.iconst 0, 1, 0, []), (.istore_n 2, 1, 0, [])]), (2, some [true, true, true], [(.iload_n 2, 1, 0, []), (.iconst 4, 1, 0, []), (.if_icmp .ge 20, 3, 24, [])]), (7, none, [(.aload_n 0, 1, 0, []), (.iload_n 1, 1, 0, []), (.iload_n 2, 1, 0, []), (.invokevirtual 91, 3, 0, []), (.ifCond .eq 5, 3, 18, [])]), (16, none, [(.iload_n 2, 1, 0, []), (.ireturn, 1, 0, [])]), (18, none, [(.iinc 2 1, 3, 0, []), (.goto (-19), 3, 2, [])]), (24, none, [(.bipush (-6), 2, 0, []), (.ireturn, 1, 0, [])])]
set_option maxRecDepth 20000 in
theorem bk_X4_leastThatMayGo : zdb cX4_leastThatMayGo 3 bl_X4_leastThatMayGo = true := by decide +kernel
noncomputable def cm_X4_leastThatMayGo (ρ : Type) : List (Nat × Nat × ZCall ρ) := [(182, 3, cI g_X4_mayGo)]
theorem lf_X4_leastThatMayGo (ρ : Type) : LfM (cm_X4_leastThatMayGo ρ) := lfm_of (lfm_cons (lfc_I g_X4_mayGo) lfm_n)
noncomputable def x_X4_leastThatMayGo : ZJ (Int32 × Wd) := zev cF_X4 cL_X4 bl_X4_leastThatMayGo (cm_X4_leastThatMayGo (Int32 × Wd)) rI
noncomputable def f_X4_leastThatMayGo (k0 : Nat) (x1 : Int32) (w : Wd) : Option (Int32 × Wd) := x_X4_leastThatMayGo 0 [] [some (zr 4 k0), some (zi x1), none] w
noncomputable def g_X4_leastThatMayGo (r : List ZV) (w : Wd) : Option (Int32 × Wd) := pR r fun tk0 k0 r => zif (Nat.beq tk0 4) (pI r fun x1 r => pE r (f_X4_leastThatMayGo k0 x1 w))
set_option maxRecDepth 20000 in
theorem e_X4_leastThatMayGo (k0 : Nat) (x1 : Int32) (w : Wd) : f_X4_leastThatMayGo k0 x1 w = (x_X4_leastThatMayGo 2 [] [some (zr 4 k0), some (zi x1), some (zi (Int32.ofInt 0))] w) := (zev_eq (lf_X4_leastThatMayGo _) _ _ _ _).trans rfl
set_option maxRecDepth 20000 in
theorem e_X4_leastThatMayGo_2 (k0 : Nat) (x1 : Int32) (x2 : Int32) (w : Wd) : x_X4_leastThatMayGo 2 [] [some (zr 4 k0), some (zi x1), some (zi x2)] w = (if (Int32.ofInt 4) ≤ x2 then (some ((Int32.ofInt (-6)), w)) else (oC (f_X4_mayGo k0 x1 x2 w) fun q1 => (if q1.1 = 0 then (x_X4_leastThatMayGo 2 [] [some (zr 4 k0), some (zi x1), some (zi (x2 + (Int32.ofInt 1)))] q1.2) else (some (x2, q1.2))))) := (zev_eq (lf_X4_leastThatMayGo _) _ _ _ _).trans rfl
theorem k_X4_leastThatMayGo : zLkV yX4_leastThatMayGo cX4_leastThatMayGo 3 (some .int) 4 1 := ⟨(tw3 (i := 48) rfl), (twp (n := 6) (List.mem_append_right _ (List.mem_of_getElem? (i := 0) rfl))), (tw1 (i := 8) rfl), (tw3 (i := 49) rfl), ⟨_, _, rfl⟩, rfl, by decide, by decide, by decide +kernel⟩
set_option maxHeartbeats 4000000 in
set_option maxRecDepth 20000 in
theorem a_X4_leastThatMayGo {l : Launch} {D : va_G} {ad : Nat → Nat → Nat} {cA : Nat → ClassId} (hI : zInj ad) {ρ : Type} (X : ρ) : zAns l D ad cA yX4_leastThatMayGo cX4_leastThatMayGo 3 (some .int) 2 46 X (fun as => ∃ i as', as = zr 4 i :: as') (cI g_X4_leastThatMayGo) := by
  intro as w Kf hv h
  obtain ⟨q, h1, h2⟩ := oC_inv h
  unfold g_X4_leastThatMayGo at h1
  obtain ⟨tk0, k0, r, rfl, h1_1⟩ := pR_inv h1
  obtain ⟨bk0, h1_1z⟩ := zif_inv h1_1
  cases Nat.eq_of_beq_eq_true bk0
  obtain ⟨x1, r, rfl, h1_2⟩ := pI_inv h1_1z
  obtain ⟨rfl, h3⟩ := pE_inv h1_2
  exact ⟨_, _, ⟨_, _, rfl⟩, h2, trivial, zmeth (cM := cm_X4_leastThatMayGo _) (bl := bl_X4_leastThatMayGo) (ret := rI) hI (by decide) fl_X4 ll_X4 (lf_X4_leastThatMayGo _) bk_X4_leastThatMayGo (Nat.le_of_ble_eq_true rfl) hv (fun hF => (zml_cons (zcv hF ⟨Nat.le_refl _, Nat.le_refl _⟩ rfl (tw3 (i := 50) rfl) k_X4_mayGo ⟨by decide, by decide⟩ (a_X4_mayGo hI _)) zml_nil)) (fun hF hr hk => zrt_I hF hr hk) h3⟩
def bl_X4_writeLeast : ZBl := [(0, none, [(.aload_n 1, 1, 0, []), (.invokevirtual 81, 3, 0, []), (.iconst 0, 1, 0, []), (.istore_n 2, 1, 0, []), (.iconst 0, 1, 0, []), (.istore_n 3, 1, 0, [])]), (8, some [true, true, true, true, false], [(.iload_n 3, 1, 0, []), (.bipush 24, 2, 0, []), (.if_icmp .ge 44, 3, 55, [])]), (14, none, [(.iload_n 2, 1, 0, []), (.aload_n 0, 1, 0, []), (.getfield 35, 3, 0, []), (.if_icmp .eq 36, 3, 55, [])]), (22, none, [(.aload_n 0, 1, 0, []), (.iload_n 2, 1, 0, []), (.invokevirtual 84, 3, 0, []), (.istore 4, 2, 0, []), (.iload 4, 2, 0, []), (.bipush (-6), 2, 0, []), (.if_icmp .eq 16, 3, 49, [])]), (36, none, [(.aload_n 1, 1, 0, []), (.iload 4, 2, 0, []), (.invokevirtual 87, 3, 0, []), (.iload_n 2, 1, 0, []), (.iload 4, 2, 0, []), (.invokestatic 71, 3, 0, []), (.istore_n 2, 1, 0, [])]), (49, none, [(.iinc 3 1, 3, 0, []), (.goto (-44), 3, 8, [])]), (55, none, [(.return_, 1, 0, [])])]
set_option maxRecDepth 20000 in
theorem bk_X4_writeLeast : zdb cX4_writeLeast 5 bl_X4_writeLeast = true := by decide +kernel
noncomputable def cm_X4_writeLeast (ρ : Type) : List (Nat × Nat × ZCall ρ) := [(162, 1, cV g_X3_clear), (168, 2, cI g_X4_leastThatMayGo), (174, 2, cV g_X3_append), (143, 2, cI g_X7_standAfter)]
theorem lf_X4_writeLeast (ρ : Type) : LfM (cm_X4_writeLeast ρ) := lfm_of (lfm_cons (lfc_V g_X3_clear) (lfm_cons (lfc_I g_X4_leastThatMayGo) (lfm_cons (lfc_V g_X3_append) (lfm_cons (lfc_I g_X7_standAfter) lfm_n))))
noncomputable def x_X4_writeLeast : ZJ Wd := zev cF_X4 cL_X4 bl_X4_writeLeast (cm_X4_writeLeast Wd) rV
noncomputable def f_X4_writeLeast (k0 : Nat) (k1 : Nat) (w : Wd) : Option Wd := x_X4_writeLeast 0 [] [some (zr 4 k0), some (zr 3 k1), none, none, none] w
noncomputable def g_X4_writeLeast (r : List ZV) (w : Wd) : Option Wd := pR r fun tk0 k0 r => zif (Nat.beq tk0 4) (pR r fun tk1 k1 r => zif (Nat.beq tk1 3) (pE r (f_X4_writeLeast k0 k1 w)))
set_option maxRecDepth 20000 in
theorem e_X4_writeLeast (k0 : Nat) (k1 : Nat) (w : Wd) : f_X4_writeLeast k0 k1 w = (oC (f_X3_clear k1 w) fun q1 => (x_X4_writeLeast 8 [] [some (zr 4 k0), some (zr 3 k1), some (zi (Int32.ofInt 0)), some (zi (Int32.ofInt 0)), none] q1)) := (zev_eq (lf_X4_writeLeast _) _ _ _ _).trans rfl
set_option maxRecDepth 20000 in
theorem e_X4_writeLeast_8 (k0 : Nat) (k1 : Nat) (x2 : Int32) (x3 : Int32) (w : Wd) : x_X4_writeLeast 8 [] [some (zr 4 k0), some (zr 3 k1), some (zi x2), some (zi x3), none] w = (if (Int32.ofInt 24) ≤ x3 then (some w) else (if x2 = (w.1 4 k0 4) then (some w) else (oC (f_X4_leastThatMayGo k0 x2 w) fun q1 => (if q1.1 = (Int32.ofInt (-6)) then (x_X4_writeLeast 8 [] [some (zr 4 k0), some (zr 3 k1), some (zi x2), some (zi (x3 + (Int32.ofInt 1))), none] q1.2) else (oC (f_X3_append k1 q1.1 q1.2) fun q2 => (oC (f_X7_standAfter x2 q1.1 q2) fun q3 => (x_X4_writeLeast 8 [] [some (zr 4 k0), some (zr 3 k1), some (zi q3.1), some (zi (x3 + (Int32.ofInt 1))), none] q3.2))))))) := (zev_eq (lf_X4_writeLeast _) _ _ _ _).trans rfl
theorem k_X4_writeLeast : zLkV yX4_writeLeast cX4_writeLeast 5 none 4 1 := ⟨(tw3 (i := 42) rfl), (tw3 (i := 43) rfl), (tw1 (i := 8) rfl), (tw3 (i := 44) rfl), ⟨_, _, rfl⟩, rfl, by decide, by decide, by decide +kernel⟩
set_option maxHeartbeats 4000000 in
set_option maxRecDepth 20000 in
theorem a_X4_writeLeast {l : Launch} {D : va_G} {ad : Nat → Nat → Nat} {cA : Nat → ClassId} (hI : zInj ad) {ρ : Type} (X : ρ) : zAns l D ad cA yX4_writeLeast cX4_writeLeast 5 none 3 68 X (fun as => ∃ i as', as = zr 4 i :: as') (cV g_X4_writeLeast) := by
  intro as w Kf hv h
  obtain ⟨q, h1, h2⟩ := oC_inv h
  unfold g_X4_writeLeast at h1
  obtain ⟨tk0, k0, r, rfl, h1_1⟩ := pR_inv h1
  obtain ⟨bk0, h1_1z⟩ := zif_inv h1_1
  cases Nat.eq_of_beq_eq_true bk0
  obtain ⟨tk1, k1, r, rfl, h1_2⟩ := pR_inv h1_1z
  obtain ⟨bk1, h1_2z⟩ := zif_inv h1_2
  cases Nat.eq_of_beq_eq_true bk1
  obtain ⟨rfl, h3⟩ := pE_inv h1_2z
  exact ⟨_, _, ⟨_, _, rfl⟩, h2, trivial, zmeth (cM := cm_X4_writeLeast _) (bl := bl_X4_writeLeast) (ret := rV) hI (by decide) fl_X4 ll_X4 (lf_X4_writeLeast _) bk_X4_writeLeast (Nat.le_of_ble_eq_true rfl) hv (fun hF => (zml_cons (zcv hF ⟨Nat.le_refl _, Nat.le_refl _⟩ rfl (tw3 (i := 45) rfl) k_X3_clear ⟨by decide, by decide⟩ (a_X3_clear hI _)) (zml_cons (zcv hF ⟨Nat.le_refl _, Nat.le_refl _⟩ rfl (tw3 (i := 46) rfl) k_X4_leastThatMayGo ⟨by decide, by decide⟩ (a_X4_leastThatMayGo hI _)) (zml_cons (zcv hF ⟨Nat.le_refl _, Nat.le_refl _⟩ rfl (tw3 (i := 55) rfl) k_X3_append ⟨by decide, by decide⟩ (a_X3_append hI _)) (zml_cons (zcn hF ⟨Nat.le_refl _, Nat.le_refl _⟩ rfl (tw3 (i := 40) rfl) k_X7_standAfter ⟨by decide, by decide⟩ (a_X7_standAfter hI _)) zml_nil))))) (fun hF hr hk => zrt_V hF hr hk) h3⟩
def bl_J7_fill_d0a16 : ZBl := [(0, none, [(.iconst 0, 1, 0, []), (.istore_n 3, 1, 0, []), (.aload_n 0, 1, 0, []), (.arraylength, 1, 0, []), (.istore 4, 2, 0, [])]), (6, some [true, true, false, true, true], [(.iload_n 3, 1, 0, []), (.iload 4, 2, 0, []), (.if_icmp .ge 13, 3, 22, [])]), (12, none, [(.aload_n 0, 1, 0, []), (.iload_n 3, 1, 0, []), (.lload_n 1, 1, 0, []), (.lastore, 1, 0, []), (.iinc 3 1, 3, 0, []), (.goto (-13), 3, 6, [])]), (22, none, [(.return_, 1, 0, [])])]
set_option maxRecDepth 20000 in
theorem bk_J7_fill_d0a16 : zdb cJ7_fill_d0a16 5 bl_J7_fill_d0a16 = true := by decide +kernel
noncomputable def cm_J7_fill_d0a16 (ρ : Type) : List (Nat × Nat × ZCall ρ) := []
theorem lf_J7_fill_d0a16 (ρ : Type) : LfM (cm_J7_fill_d0a16 ρ) := lfm_of lfm_n
noncomputable def x_J7_fill_d0a16 : ZJ Wd := zev cF_J7 cL_J7 bl_J7_fill_d0a16 (cm_J7_fill_d0a16 Wd) rV
noncomputable def f_J7_fill_d0a16 (k0 : Nat) (y1 : Int64) (w : Wd) : Option Wd := x_J7_fill_d0a16 0 [] [some (zr 17 k0), some (zl y1), none, none, none] w
noncomputable def g_J7_fill_d0a16 (r : List ZV) (w : Wd) : Option Wd := pR r fun tk0 k0 r => zif (Nat.beq tk0 17) (pL r fun y1 r => pE r (f_J7_fill_d0a16 k0 y1 w))
set_option maxRecDepth 20000 in
theorem e_J7_fill_d0a16 (k0 : Nat) (y1 : Int64) (w : Wd) : f_J7_fill_d0a16 k0 y1 w = (x_J7_fill_d0a16 6 [] [some (zr 17 k0), some (zl y1), none, some (zi (Int32.ofInt 0)), some (zi (Int32.ofNat (if k0 = 2 then 65536 else 4096)))] w) := (zev_eq (lf_J7_fill_d0a16 _) _ _ _ _).trans rfl
set_option maxRecDepth 20000 in
theorem e_J7_fill_d0a16_6 (k0 : Nat) (y1 : Int64) (x3 : Int32) (x4 : Int32) (w : Wd) : x_J7_fill_d0a16 6 [] [some (zr 17 k0), some (zl y1), none, some (zi x3), some (zi x4)] w = (if x4 ≤ x3 then (some w) else (chk x3 (if k0 = 2 then 65536 else 4096) (x_J7_fill_d0a16 6 [] [some (zr 17 k0), some (zl y1), none, some (zi (x3 + (Int32.ofInt 1))), some (zi x4)] (wL w 17 k0 x3.toNatClampNeg y1)))) := (zev_eq (lf_J7_fill_d0a16 _) _ _ _ _).trans rfl
theorem k_J7_fill_d0a16 : zLkS yJ7_fill_d0a16 cJ7_fill_d0a16 5 none 2 := ⟨(tw2 (i := 132) rfl), (tw1 (i := 10) rfl), (tw2 (i := 133) rfl), by decide, by decide, by decide +kernel⟩
set_option maxHeartbeats 4000000 in
set_option maxRecDepth 20000 in
theorem a_J7_fill_d0a16 {l : Launch} {D : va_G} {ad : Nat → Nat → Nat} {cA : Nat → ClassId} (hI : zInj ad) {ρ : Type} (X : ρ) : zAns l D ad cA yJ7_fill_d0a16 cJ7_fill_d0a16 5 none 0 0 X (fun _ => True) (cV g_J7_fill_d0a16) := by
  intro as w Kf hv h
  obtain ⟨q, h1, h2⟩ := oC_inv h
  unfold g_J7_fill_d0a16 at h1
  obtain ⟨tk0, k0, r, rfl, h1_1⟩ := pR_inv h1
  obtain ⟨bk0, h1_1z⟩ := zif_inv h1_1
  cases Nat.eq_of_beq_eq_true bk0
  obtain ⟨y1, r, rfl, h1_2⟩ := pL_inv h1_1z
  obtain ⟨rfl, h3⟩ := pE_inv h1_2
  exact ⟨_, _, trivial, h2, trivial, zmeth (cM := cm_J7_fill_d0a16 _) (bl := bl_J7_fill_d0a16) (ret := rV) hI (by decide) fl_J7 ll_J7 (lf_J7_fill_d0a16 _) bk_J7_fill_d0a16 (Nat.le_of_ble_eq_true rfl) hv (fun hF => zml_nil) (fun hF hr hk => zrt_V hF hr hk) h3⟩
def bl_X4_linearOrders : ZBl := [(0, none, [(.aload_n 0, 1, 0, []), (.getfield 21, 3, 0, []), (.lconst 0, 1, 0, []), (.invokestatic 94, 3, 0, []), (.aload_n 0, 1, 0, []), (.getfield 21, 3, 0, []), (.iconst 0, 1, 0, []), (.lconst 1, 1, 0, []), (.lastore, 1, 0, []), (.iconst 0, 1, 0, []), (.istore_n 1, 1, 0, [])]), (17, some [true, true, false], [(.iload_n 1, 1, 0, []), (.sipush 4096, 3, 0, []), (.if_icmp .ge 61, 3, 82, [])]), (24, none, [(.iconst 0, 1, 0, []), (.istore_n 2, 1, 0, [])]), (26, some [true, true, true], [(.iload_n 2, 1, 0, []), (.iconst 4, 1, 0, []), (.if_icmp .ge 48, 3, 76, [])]), (31, none, [(.aload_n 0, 1, 0, []), (.getfield 21, 3, 0, []), (.iload_n 1, 1, 0, []), (.laload, 1, 0, []), (.lconst 0, 1, 0, []), (.lcmp, 1, 0, []), (.ifCond .eq 37, 3, 76, [])]), (42, none, [(.aload_n 0, 1, 0, []), (.iload_n 1, 1, 0, []), (.iload_n 2, 1, 0, []), (.invokevirtual 91, 3, 0, []), (.ifCond .eq 22, 3, 70, [])]), (51, none, [(.aload_n 0, 1, 0, []), (.getfield 21, 3, 0, []), (.iload_n 1, 1, 0, []), (.iload_n 2, 1, 0, []), (.invokestatic 71, 3, 0, []), (.dup2, 1, 0, []), (.laload, 1, 0, []), (.aload_n 0, 1, 0, []), (.getfield 21, 3, 0, []), (.iload_n 1, 1, 0, []), (.laload, 1, 0, []), (.ladd, 1, 0, []), (.lastore, 1, 0, [])]), (70, none, [(.iinc 2 1, 3, 0, []), (.goto (-47), 3, 26, [])]), (76, none, [(.iinc 1 1, 3, 0, []), (.goto (-62), 3, 17, [])]), (82, none, [(.aload_n 0, 1, 0, []), (.getfield 21, 3, 0, []), (.aload_n 0, 1, 0, []), (.getfield 35, 3, 0, []), (.laload, 1, 0, []), (.lreturn, 1, 0, [])])]
set_option maxRecDepth 20000 in
theorem bk_X4_linearOrders : zdb cX4_linearOrders 3 bl_X4_linearOrders = true := by decide +kernel
noncomputable def cm_X4_linearOrders (ρ : Type) : List (Nat × Nat × ZCall ρ) := [(189, 2, cV g_J7_fill_d0a16), (182, 3, cI g_X4_mayGo), (143, 2, cI g_X7_standAfter)]
theorem lf_X4_linearOrders (ρ : Type) : LfM (cm_X4_linearOrders ρ) := lfm_of (lfm_cons (lfc_V g_J7_fill_d0a16) (lfm_cons (lfc_I g_X4_mayGo) (lfm_cons (lfc_I g_X7_standAfter) lfm_n)))
noncomputable def x_X4_linearOrders : ZJ (Int64 × Wd) := zev cF_X4 cL_X4 bl_X4_linearOrders (cm_X4_linearOrders (Int64 × Wd)) rJ
noncomputable def f_X4_linearOrders (k0 : Nat) (w : Wd) : Option (Int64 × Wd) := x_X4_linearOrders 0 [] [some (zr 4 k0), none, none] w
noncomputable def g_X4_linearOrders (r : List ZV) (w : Wd) : Option (Int64 × Wd) := pR r fun tk0 k0 r => zif (Nat.beq tk0 4) (pE r (f_X4_linearOrders k0 w))
set_option maxRecDepth 20000 in
theorem e_X4_linearOrders (k0 : Nat) (w : Wd) : f_X4_linearOrders k0 w = (oC (f_J7_fill_d0a16 0 (Int64.ofInt 0) w) fun q1 => (chk (Int32.ofInt 0) 4096 (x_X4_linearOrders 17 [] [some (zr 4 k0), some (zi (Int32.ofInt 0)), none] (wL q1 17 0 (Int32.ofInt 0).toNatClampNeg (Int64.ofInt 1))))) := (zev_eq (lf_X4_linearOrders _) _ _ _ _).trans rfl
set_option maxRecDepth 20000 in
theorem e_X4_linearOrders_17 (k0 : Nat) (x1 : Int32) (w : Wd) : x_X4_linearOrders 17 [] [some (zr 4 k0), some (zi x1), none] w = (if (Int32.ofInt 4096) ≤ x1 then (chk (w.1 4 k0 4) 4096 (some ((w.2 17 0 (w.1 4 k0 4).toNatClampNeg), w))) else (x_X4_linearOrders 26 [] [some (zr 4 k0), some (zi x1), some (zi (Int32.ofInt 0))] w)) := (zev_eq (lf_X4_linearOrders _) _ _ _ _).trans rfl
set_option maxRecDepth 20000 in
theorem e_X4_linearOrders_26 (k0 : Nat) (x1 : Int32) (x2 : Int32) (w : Wd) : x_X4_linearOrders 26 [] [some (zr 4 k0), some (zi x1), some (zi x2)] w = (if (Int32.ofInt 4) ≤ x2 then (x_X4_linearOrders 17 [] [some (zr 4 k0), some (zi (x1 + (Int32.ofInt 1))), none] w) else (chk x1 4096 (if (lg_cmp (w.2 17 0 x1.toNatClampNeg) (Int64.ofInt 0)) = 0 then (x_X4_linearOrders 17 [] [some (zr 4 k0), some (zi (x1 + (Int32.ofInt 1))), none] w) else (oC (f_X4_mayGo k0 x1 x2 w) fun q1 => (if q1.1 = 0 then (x_X4_linearOrders 26 [] [some (zr 4 k0), some (zi x1), some (zi (x2 + (Int32.ofInt 1)))] q1.2) else (oC (f_X7_standAfter x1 x2 q1.2) fun q2 => (chk q2.1 4096 (chk x1 4096 (chk q2.1 4096 (x_X4_linearOrders 26 [] [some (zr 4 k0), some (zi x1), some (zi (x2 + (Int32.ofInt 1)))] (wL q2.2 17 0 q2.1.toNatClampNeg ((q2.2.2 17 0 q2.1.toNatClampNeg) + (q2.2.2 17 0 x1.toNatClampNeg))))))))))))) := (zev_eq (lf_X4_linearOrders _) _ _ _ _).trans rfl
theorem k_X4_linearOrders : zLkV yX4_linearOrders cX4_linearOrders 3 (some .long) 4 0 := ⟨(tw3 (i := 73) rfl), (tw3 (i := 74) rfl), (tw1 (i := 8) rfl), (tw3 (i := 75) rfl), ⟨_, _, rfl⟩, rfl, by decide, by decide, by decide +kernel⟩
set_option maxHeartbeats 4000000 in
set_option maxRecDepth 20000 in
theorem a_X4_linearOrders {l : Launch} {D : va_G} {ad : Nat → Nat → Nat} {cA : Nat → ClassId} (hI : zInj ad) {ρ : Type} (X : ρ) : zAns l D ad cA yX4_linearOrders cX4_linearOrders 3 (some .long) 2 46 X (fun as => ∃ i as', as = zr 4 i :: as') (cJ g_X4_linearOrders) := by
  intro as w Kf hv h
  obtain ⟨q, h1, h2⟩ := oC_inv h
  unfold g_X4_linearOrders at h1
  obtain ⟨tk0, k0, r, rfl, h1_1⟩ := pR_inv h1
  obtain ⟨bk0, h1_1z⟩ := zif_inv h1_1
  cases Nat.eq_of_beq_eq_true bk0
  obtain ⟨rfl, h3⟩ := pE_inv h1_1z
  exact ⟨_, _, ⟨_, _, rfl⟩, h2, trivial, zmeth (cM := cm_X4_linearOrders _) (bl := bl_X4_linearOrders) (ret := rJ) hI (by decide) fl_X4 ll_X4 (lf_X4_linearOrders _) bk_X4_linearOrders (Nat.le_of_ble_eq_true rfl) hv (fun hF => (zml_cons (zcs hF ⟨Nat.le_refl _, Nat.le_refl _⟩ rfl (tw3 (i := 76) rfl) k_J7_fill_d0a16 ⟨by decide, by decide⟩ (a_J7_fill_d0a16 hI _)) (zml_cons (zcv hF ⟨Nat.le_refl _, Nat.le_refl _⟩ rfl (tw3 (i := 50) rfl) k_X4_mayGo ⟨by decide, by decide⟩ (a_X4_mayGo hI _)) (zml_cons (zcn hF ⟨Nat.le_refl _, Nat.le_refl _⟩ rfl (tw3 (i := 40) rfl) k_X7_standAfter ⟨by decide, by decide⟩ (a_X7_standAfter hI _)) zml_nil)))) (fun hF hr hk => zrt_J hF hr hk) h3⟩
