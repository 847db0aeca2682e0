/-! METHODS AND CALLS: a method's contract out of its run; a call out of a contract. -/
def zroom (fr lc : Nat) : Room := { frames := fr, cells := 0, slots := 0, locals := lc }
def zPc (D : va_G) (ad : Nat → Nat → Nat) (cA : Nat → ClassId) (as : List ZV) (w : Wd) : Array Value → State → Prop := fun a U => a = (as.map (zconc ad)).toArray ∧ zK D cA U ∧ zRep D ad cA w U U.heap
def zQc (D : va_G) (ad : Nat → Nat → Nat) (cA : Nat → ClassId) (v : Option ZV) (w' : Wd) : Array Value → State → Outcome → State → Prop := fun _ st oc t => oc = .returned (v.map (zconc ad)) ∧ zRep D ad cA w' t t.heap ∧ va_F (zA ad) st t
def zCt (l : Launch) (D : va_G) (ad : Nat → Nat → Nat) (cA : Nat → ClassId) (y : MethodName) (cc : ByteArray) (nL : Nat) (rt : Option FieldType) (fr lc : Nat) (as : List ZV) (w : Wd) (v : Option ZV) (w' : Wd) : Prop :=
  Met l y (zTs y cc nL rt) (zroom fr lc) (zPc D ad cA as w) (zQc D ad cA v w') 0 0 (zA ad)
def zvo : Option ZV → Prop
  | some v => zVal v
  | none => True
theorem zPc_blind {D : va_G} {ad : Nat → Nat → Nat} {cA : Nat → ClassId} {as : List ZV} {w : Wd} : FrameBlind (zPc D ad cA as w) := by
  intro a U g mk h
  obtain ⟨h1, h2, h3⟩ := h
  refine ⟨h1, ⟨va_K.moved (u := U) (U := U.calling g mk a) (Vm.Alike.refl U.vm) h2.1, fun w hw hn => ?_⟩, h3.moved (U := U.calling g mk a) (Vm.Alike.refl U.vm)⟩
  have h4 := h2.2 w hw hn
  cases w <;> first
    | (cases hn; done)
    | exact va_Nw.same rfl rfl h4
/-! typed answers -/
theorem oC_inv {ρ : Type} {X : ρ} {α : Type} {o : Option α} {f : α → Option ρ} (h : oC o f = some X) : ∃ a, o = some a ∧ f a = some X := by
  unfold oC at h; split at h
  · exact ⟨_, rfl, h⟩
  · cases h
section TY
variable {ρ : Type}
def cI (g : List ZV → Wd → Option (Int32 × Wd)) : ZCall ρ := fun as w K => oC (g as w) fun q => K (some (zi q.1)) q.2
def cJ (g : List ZV → Wd → Option (Int64 × Wd)) : ZCall ρ := fun as w K => oC (g as w) fun q => K (some (zl q.1)) q.2
def cV (g : List ZV → Wd → Option Wd) : ZCall ρ := fun as w K => oC (g as w) fun q => K none q
def cR (g : List ZV → Wd → Option ((Nat × Nat) × Wd)) : ZCall ρ := fun as w K => oC (g as w) fun q => zif (Nat.blt q.1.2 (zcnt q.1.1)) (K (some (zr q.1.1 q.1.2)) q.2)
theorem lfc_I (g : List ZV → Wd → Option (Int32 × Wd)) : LfC (cI (ρ := ρ) g) := fun as w K X h => by
  obtain ⟨q, h1, h2⟩ := oC_inv h
  exact ⟨_, _, h2, fun K' h' => by simp only [cI, h1, oC]; exact h'⟩
theorem lfc_J (g : List ZV → Wd → Option (Int64 × Wd)) : LfC (cJ (ρ := ρ) g) := fun as w K X h => by
  obtain ⟨q, h1, h2⟩ := oC_inv h
  exact ⟨_, _, h2, fun K' h' => by simp only [cJ, h1, oC]; exact h'⟩
theorem lfc_V (g : List ZV → Wd → Option Wd) : LfC (cV (ρ := ρ) g) := fun as w K X h => by
  obtain ⟨q, h1, h2⟩ := oC_inv h
  exact ⟨_, _, h2, fun K' h' => by simp only [cV, h1, oC]; exact h'⟩
theorem lfc_R (g : List ZV → Wd → Option ((Nat × Nat) × Wd)) : LfC (cR (ρ := ρ) g) := fun as w K X h => by
  obtain ⟨q, h1, h2⟩ := oC_inv h
  obtain ⟨h3, h4⟩ := zif_inv h2
  exact ⟨_, _, h4, fun K' h' => by simp only [cR, h1, oC, h3, zif]; exact h'⟩
theorem lfm_nil : LfM ([] : List (Nat × Nat × ZCall ρ)) := fun _ _ h => by cases h
theorem lfm_of {cM : List (Nat × Nat × ZCall ρ)} (h : ∀ q ∈ cM, LfC q.2.2) : LfM cM := fun _ _ hk => h _ (zop_mem hk)
end TY
def rI : Option ZV → Wd → Option (Int32 × Wd) := fun v w => match v with
  | some (Sum.inl x) => some (x, w)
  | _ => none
def rZ : Option ZV → Wd → Option (Int32 × Wd) := fun v w => match v with
  | some (Sum.inl x) => zb x (some (x, w))
  | _ => none
def rJ : Option ZV → Wd → Option (Int64 × Wd) := fun v w => match v with
  | some (Sum.inr (Sum.inl x)) => some (x, w)
  | _ => none
def rV : Option ZV → Wd → Option Wd := fun v w => match v with
  | none => some w
  | _ => none
def rR : Option ZV → Wd → Option ((Nat × Nat) × Wd) := fun v w => match v with
  | some (Sum.inr (Sum.inr q)) => some (q, w)
  | _ => none
def zentl : List ZV → Lo
  | [] => []
  | Sum.inr (Sum.inl x) :: r => some (zl x) :: none :: zentl r
  | v :: r => some v :: zentl r
def zent (nL : Nat) (as : List ZV) : Lo := zentl as ++ List.replicate (nL - (zentl as).length) none
theorem zget_app_none : ∀ (lo : Lo) (n i : Nat) (v : ZV), zget (lo ++ List.replicate n none) i = some v → zget lo i = some v
  | [], 0, _, _, h => by cases h
  | [], n + 1, 0, _, h => by cases h
  | [], n + 1, i + 1, v, h => zget_app_none [] n i v h
  | a :: l, n, 0, v, h => h
  | a :: l, n, i + 1, v, h => zget_app_none l n i v h
theorem zent_args (ad : Nat → Nat → Nat) : ∀ (as : List ZV) (j i : Nat) (v : ZV), zget (zentl as) i = some v → (j + i, zconc ad v) ∈ lv_args j (as.map (zconc ad)) ∧ v ∈ as
  | [], _, _, _, h => by cases h
  | Sum.inl x :: r, j, 0, v, h => by
    cases h
    exact ⟨List.mem_cons_self, List.mem_cons_self⟩
  | Sum.inl x :: r, j, i + 1, v, h => by
    obtain ⟨h1, h2⟩ := zent_args ad r (j + 1) i v h
    rw [show j + (i + 1) = j + 1 + i by omega]
    exact ⟨List.mem_cons_of_mem _ h1, List.mem_cons_of_mem _ h2⟩
  | Sum.inr (Sum.inr x) :: r, j, 0, v, h => by
    cases h
    exact ⟨List.mem_cons_self, List.mem_cons_self⟩
  | Sum.inr (Sum.inr x) :: r, j, i + 1, v, h => by
    obtain ⟨h1, h2⟩ := zent_args ad r (j + 1) i v h
    rw [show j + (i + 1) = j + 1 + i by omega]
    exact ⟨List.mem_cons_of_mem _ h1, List.mem_cons_of_mem _ h2⟩
  | Sum.inr (Sum.inl x) :: r, j, 0, v, h => by
    cases h
    exact ⟨List.mem_cons_self, List.mem_cons_self⟩
  | Sum.inr (Sum.inl x) :: r, j, 1, v, h => by cases h
  | Sum.inr (Sum.inl x) :: r, j, i + 2, v, h => by
    obtain ⟨h1, h2⟩ := zent_args ad r (j + 2) i v h
    rw [show j + (i + 2) = j + 2 + i by omega]
    exact ⟨List.mem_cons_of_mem _ h1, List.mem_cons_of_mem _ h2⟩
theorem zentl_len (ad : Nat → Nat → Nat) : ∀ (as : List ZV), (lg_sl (as.map (zconc ad))).length = (zentl as).length
  | [] => rfl
  | Sum.inl x :: r => by
    have := zentl_len ad r
    simp only [List.map_cons, lg_sl, List.flatMap_cons, List.length_append] at this ⊢
    rw [this]; simp [zconc, Value.category, zentl]; omega
  | Sum.inr (Sum.inr x) :: r => by
    have := zentl_len ad r
    simp only [List.map_cons, lg_sl, List.flatMap_cons, List.length_append] at this ⊢
    rw [this]; simp [zconc, Value.category, zentl]; omega
  | Sum.inr (Sum.inl x) :: r => by
    have := zentl_len ad r
    simp only [List.map_cons, lg_sl, List.flatMap_cons, List.length_append] at this ⊢
    rw [this]; simp [zconc, Value.category, zentl]; omega
section ME
variable {l : Launch} {D : va_G} {ad : Nat → Nat → Nat} {cA : Nat → ClassId} {y : MethodName} {cc : ByteArray} {nL : Nat} {rt : Option FieldType} {fr lc : Nat}
/-- a method out of a run of its code -/
theorem zmeth {ρ : Type} {X : ρ} {cF : List (Nat × Nat × Nat)} {cL : List (Nat × Int64)} {bl : ZBl} {cM : List (Nat × Nat × ZCall ρ)} {ret : Option ZV → Wd → Option ρ} {as : List ZV} {w : Wd} {v : Option ZV} {w' : Wd} (hI : zInj ad) (hy : plainName y.cls = true) (hcF : zFl y.cls cF) (hcL : zLl y.cls cL) (hM : LfM cM) (hbl : zdb cc nL bl = true) (hlen : (zentl as).length ≤ nL) (hv : ∀ u ∈ as, zVal u)
    (hcM : ∀ {p e s m args below meth c} {Q : State → Prop}, zMF p s m args c cc nL y.cls (zTs y cc nL rt) D ad cA (zA ad) → zMl (zCk p l e (zroom fr lc) s m args below meth c 0 0 Q cc nL D ad cA (zA ad) X) cM)
    (hRt : ∀ {p e s m args below meth c}, zMF p s m args c cc nL y.cls (zTs y cc nL rt) D ad cA (zA ad) → meth.sig.returnType = rt → meth.locks = false → zRt p l e (zroom fr lc) s m args below meth c 0 0 (MQ below (zQc D ad cA v w') args s 0 0 (zA ad)) cc nL D ad cA (zA ad) X ret)
    (h : zev cF cL bl cM ret 0 [] (zent nL as) w = some X) : zCt l D ad cA y cc nL rt fr lc as w v w' := by
  refine Met.ofW (cc := cc) (maxL := nL) (ret := rt) hy rfl ?_
  intro p e s m args below meth c s₁ B hml hpc
  obtain ⟨rfl, hK, hP⟩ := hpc
  have hF : zMF p s m (as.map (zconc ad)).toArray c cc nL y.cls (zTs y cc nL rt) D ad cA (zA ad) := ⟨B.exec, B.bytes, hml, findClass_of_methodNamed B.named, atoms_spec (ws := zTs y cc nL rt) B.pre, zTs_W0, hK, hI, fun t i h1 h2 => ⟨t, i, h1, h2, rfl⟩⟩
  have hz := zev_sound (e := e) (R := zroom fr lc) (Q := MQ below (zQc D ad cA v w') (as.map (zconc ad)).toArray s 0 0 (zA ad)) hF hcF hcL (hcM hF) (hRt hF B.returns B.notSynchronized) hbl hM h
  have hl := lv_entry (as.map (zconc ad)) (n := nL) (by rw [zentl_len]; exact hlen)
  rw [lg_entry_eq]
  refine hz (fun v hv => by cases hv) (fun i u hu => hv u (zent_args ad as 0 i u (zget_app_none _ _ _ _ hu)).2) s.heap [] _ hP va_S.rf ⟨_, hl, fun i u hu => ?_⟩
  have := (zent_args ad as 0 i u (zget_app_none _ _ _ _ hu)).1
  rwa [Nat.zero_add] at this
theorem zret_ok {s t : State} {w : Wd} {H : Heap} {locs : List Loc} {A : Nat → Prop} (hP : zRep D ad cA w s H) (hS : va_S A s.heap H locs) (ht : t.heap = H) (hW : s.WarmedH t.vm) : zRep D ad cA w t t.heap ∧ va_F A s t := by
  refine ⟨?_, hS.F ht⟩
  rw [ht]
  exact hP.moved hW.alike
section RT
variable {p : Program} {e : Env} {s : State} {m : MethodId} {args : Array Value} {below : List Frame} {meth : Method} {c : Code} {own : String} {Ts : List Cond} {R : Room} {A : Nat → Prop}
theorem zrt_I {X : Int32 × Wd} (hF : zMF p s m args c cc nL own Ts D ad cA (zA ad)) (hr : meth.sig.returnType = some .int) (hlk : meth.locks = false) : zRt p l e R s m args below meth c 0 0 (MQ below (zQc D ad cA (some (zi X.1)) X.2) args s 0 0 (zA ad)) cc nL D ad cA (zA ad) X rI := by
  refine ⟨fun pc x w lo hd h => ?_, fun pc x w lo hd h => by (cases h), fun pc t i w lo hd h => by (cases h), fun pc w lo hd h => by (cases h)⟩
  cases h
  intro hv hvl H locs ls hP hS hL
  exact W.iret hF.1 hF.2.1 hr (fun t ht hW => ⟨rfl, zret_ok hP hS ht hW⟩) hS.2.2 hd hlk
theorem zrt_Z {X : Int32 × Wd} (hF : zMF p s m args c cc nL own Ts D ad cA (zA ad)) (hr : meth.sig.returnType = some .boolean) (hlk : meth.locks = false) : zRt p l e R s m args below meth c 0 0 (MQ below (zQc D ad cA (some (zi X.1)) X.2) args s 0 0 (zA ad)) cc nL D ad cA (zA ad) X rZ := by
  refine ⟨fun pc x w lo hd h => ?_, fun pc x w lo hd h => by (cases h), fun pc t i w lo hd h => by (cases h), fun pc w lo hd h => by (cases h)⟩
  obtain ⟨h01, h⟩ := zb_inv h
  cases h
  intro hv hvl H locs ls hP hS hL
  exact W.zret hF.1 hF.2.1 hr (by rcases h01 with rfl | rfl <;> rfl) (fun t ht hW => ⟨rfl, zret_ok hP hS ht hW⟩) hS.2.2 hd hlk
theorem zrt_J {X : Int64 × Wd} (hF : zMF p s m args c cc nL own Ts D ad cA (zA ad)) (hr : meth.sig.returnType = some .long) (hlk : meth.locks = false) : zRt p l e R s m args below meth c 0 0 (MQ below (zQc D ad cA (some (zl X.1)) X.2) args s 0 0 (zA ad)) cc nL D ad cA (zA ad) X rJ := by
  refine ⟨fun pc x w lo hd h => by (cases h), fun pc x w lo hd h => ?_, fun pc t i w lo hd h => by (cases h), fun pc w lo hd h => by (cases h)⟩
  cases h
  intro hv hvl H locs ls hP hS hL
  exact W.lret hF.1 hF.2.1 hr (fun t ht hW => ⟨rfl, zret_ok hP hS ht hW⟩) hS.2.2 hd hlk
theorem zrt_V {X : Wd} (hF : zMF p s m args c cc nL own Ts D ad cA (zA ad)) (hr : meth.sig.returnType = none) (hlk : meth.locks = false) : zRt p l e R s m args below meth c 0 0 (MQ below (zQc D ad cA none X) args s 0 0 (zA ad)) cc nL D ad cA (zA ad) X rV := by
  refine ⟨fun pc x w lo hd h => by (cases h), fun pc x w lo hd h => by (cases h), fun pc t i w lo hd h => by (cases h), fun pc w lo hd h => ?_⟩
  cases h
  intro hv hvl H locs ls hP hS hL
  exact W.vret hF.1 hF.2.1 hr (fun t ht hW => ⟨rfl, zret_ok hP hS ht hW⟩) hS.2.2 hd hlk
theorem zrt_R {X : (Nat × Nat) × Wd} {nm : String} (hF : zMF p s m args c cc nL own Ts D ad cA (zA ad)) (hr : meth.sig.returnType = some (.object nm)) (hlk : meth.locks = false) : zRt p l e R s m args below meth c 0 0 (MQ below (zQc D ad cA (some (zr X.1.1 X.1.2)) X.2) args s 0 0 (zA ad)) cc nL D ad cA (zA ad) X rR := by
  refine ⟨fun pc x w lo hd h => by (cases h), fun pc x w lo hd h => by (cases h), fun pc t i w lo hd h => ?_, fun pc w lo hd h => by (cases h)⟩
  cases h
  intro hv hvl H locs ls hP hS hL
  exact W.aret hF.1 hF.2.1 hr (Or.inl ⟨_, rfl⟩) (Or.inr ⟨_, rfl⟩) (fun t ht hW => ⟨rfl, zret_ok hP hS ht hW⟩) hS.2.2 hd hlk
end RT
end ME
section CA
variable {p : Program} {l : Launch} {e : Env} {R : Room} {s : State} {m : MethodId} {args : Array Value} {below : List Frame} {meth : Method} {c : Code} {cells slots : Nat} {Q : State → Prop} {cc : ByteArray} {nL : Nat} {own : String} {Ts : List Cond} {D : va_G} {ad : Nat → Nat → Nat} {cA : Nat → ClassId} {A : Nat → Prop}
theorem zx_run {H : Heap} {locs : List Loc} {pc : Nat} {ls : Array Slot} {st0 rest : List Value} {v : Option ZV} {w' : Wd} {a : Array Value} (hF : zMF p s m args c cc nL own Ts D ad cA A)
    (hr : va_Run p l e R s m args below meth c H locs cells slots 0 0 (F0 m pc ls st0) rest (zQc D ad cA v w' a) (zA ad)) (hS : va_S A s.heap H locs)
    (kk : ∀ (H1 : Heap) (locs1 : List Loc), zRep D ad cA w' s H1 → va_S A s.heap H1 locs1 → W p l e R s m args below meth c H1 locs1 cells slots Q (F0 m (pc + 3) ls ((v.map (zconc ad)).toList ++ rest))) : W p l e R s m args below meth c H locs cells slots Q (F0 m pc ls st0) := by
  have hA : ∀ q, zA ad q → A q := by
    rintro q ⟨t, i, h1, h2, rfl⟩
    exact hF.2.2.2.2.2.2.2.2 t i h1 h2
  intro T hT X
  obtain ⟨v', st₀, t, T', L, h0, X', hL, e1, e2, ⟨hv, hrep, hz, hk⟩, st⟩ := hr T hT X
  cases hv
  rw [h0] at hz hk
  obtain ⟨t2, a1, b1⟩ := kk T'.heap (locs ++ L) (by
      rw [e1]
      exact hrep.moved (by rw [← e2]; exact X'.warmed.alike.symm))
    ⟨Nat.le_trans hS.1 (by rw [e1]; exact hz), fun q h1 h2 => by
        rw [e1, hk q (Nat.lt_of_lt_of_le h1 hS.1) (fun z => h2 (hA q z))]
        exact hS.2.1 q h1 h2, fun q hq => by
      rcases List.mem_append.mp hq with h | h
      · exact hS.2.2 q h
      · exact hA _ (hL q h)⟩ T' rfl X'
  exact ⟨t2, st t2 a1, b1⟩
theorem zcat_sum (ad : Nat → Nat → Nat) : ∀ r : List ZV, ((r.map (zconc ad)).map fun v => v.category).sum = zcat r
  | [] => rfl
  | Sum.inl x :: r => by simp only [List.map_cons, List.sum_cons, zcat_sum ad r]; rfl
  | Sum.inr (Sum.inl x) :: r => by simp only [List.map_cons, List.sum_cons, zcat_sum ad r]; rfl
  | Sum.inr (Sum.inr x) :: r => by simp only [List.map_cons, List.sum_cons, zcat_sum ad r]; rfl
theorem zmap_toList (ad : Nat → Nat → Nat) (v : Option ZV) (r : List ZV) : (v.map (zconc ad)).toList ++ r.map (zconc ad) = (v.toList ++ r).map (zconc ad) := by
  cases v <;> simp
/-- what a contract says of a table's function: it answers by a contract -/
def zAns {ρ : Type} (l : Launch) (D : va_G) (ad : Nat → Nat → Nat) (cA : Nat → ClassId) (y : MethodName) (cc : ByteArray) (nL : Nat) (rt : Option FieldType) (fr lc : Nat) (X : ρ) (P : List ZV → Prop) (F : ZCall ρ) : Prop :=
  ∀ as w Kf, (∀ u ∈ as, zVal u) → F as w Kf = some X → ∃ v w', P as ∧ Kf v w' = some X ∧ zvo v ∧ zCt l D ad cA y cc nL rt fr lc as w v w'
theorem zv_rev {as r : List ZV} (h : ∀ v ∈ as.reverse ++ r, zVal v) : (∀ v ∈ as, zVal v) ∧ ∀ v ∈ r, zVal v :=
  ⟨fun v hv => h v (List.mem_append_left _ (List.mem_reverse.mpr hv)), fun v hv => h v (List.mem_append_right _ hv)⟩
theorem zv_opt {v : Option ZV} {r : List ZV} (h1 : zvo v) (h2 : ∀ u ∈ r, zVal u) : ∀ u ∈ v.toList ++ r, zVal u := by
  cases v with
  | none => exact h2
  | some v => exact zv_cons h1 h2
theorem zck_V {ρ : Type} {X : ρ} {k n : Nat} {y : MethodName} {cc' : ByteArray} {nL' : Nat} {rt' : Option FieldType} {fr lc tg : Nat} {T : u_T} {N : Nat} {F : ZCall ρ} (hF : zMF p s m args c cc nL own Ts D ad cA A) (hcr : cells ≤ R.cells ∧ slots ≤ R.slots)
    (hl : Cond.methodLink own k y ∈ lw_tbl) (hi : Cond.instanceMethod y ∈ lw_tbl) (hse : Cond.selects y.cls y y ∈ lw_tbl) (hini : Cond.initialized y.cls ∈ lw_tbl) (hco : Cond.code y cc' nL' rt' ∈ lw_tbl)
    (hC : vwCl[tg]? = some (y.cls, T, N)) (hkd : zkd tg = 0) (hd : y.cls ≠ "java/lang/invoke/MethodHandle" ∧ y.cls ≠ "java/lang/invoke/VarHandle" ∧ (parseMethodDescriptor y.desc).map (fun d => d.parameters.length) = some n) (hR : fr + 1 ≤ R.frames ∧ 8 + (nL' + 11) + lc ≤ R.locals)
    (hct : zAns l D ad cA y cc' nL' rt' fr lc X (fun as => ∃ i as', as = zr tg i :: as') F) : zCk p l e R s m args below meth c cells slots Q cc nL D ad cA A X (.invokevirtual k) (n + 1, F) := by
  intro pc as r lo w Kf hdc hn h8 hX hK hv hvl H locs ls hP hS hL
  obtain ⟨va, vr⟩ := zv_rev hv
  obtain ⟨v, w', ⟨i, as', rfl⟩, hkf, hvv, hM⟩ := hct as w Kf va hX
  obtain ⟨hx, hb, hml, hown, hts, hT, hKs, hI, hA⟩ := id hF
  have W0 : ∀ w, w ∈ lw_tbl → goodWord w = true → w.before args s = true := fun w h g => hts w (hT w (zW0_mem h g))
  have hit : i < zcnt tg := va _ List.mem_cons_self
  have hn' : as'.length = n := by simpa using hn
  have cw : CallW R s args own y.cls k y cc' nL' rt' (zTs y cc' nL' rt') (zroom fr lc) 0 0 n := ⟨callB_of n hts (zGood hT hco) rfl rfl rfl (W0 _ hini rfl) (W0 _ hl rfl) hd hR, W0 _ hi rfl, W0 _ hse rfl⟩
  have hrecv := va_recv hKs.1 (zx_obj hP hit hkd) hC (q0 := 0) rfl
  obtain ⟨lv, hl1, -⟩ := id hL
  have run := va_runV (As := as'.map (zconc ad)) (rest := r.map (zconc ad)) (C := y.cls) (b := ad tg i) (g := F0 m pc ls ((as'.map (zconc ad)).reverse ++ .ref (ad tg i) :: r.map (zconc ad))) (locs := locs) (cells := cells) (slots := slots) (below := below) (meth := meth) (e := e) (H := H) ⟨hx, hb, hml, hown, hts⟩ hM cw
    ⟨zPc_blind, hrecv, fun U hU hW => ⟨rfl, hKs.moved hW, by rw [hU]; exact hP.moved hW.alike⟩⟩ rfl (by simpa using hn') hl1.1 rfl (by show 2 * 0 + _ ≤ 8; rw [zcat_sum]; omega) hdc ⟨hcr.1, hcr.2⟩
  have hst : (((zr tg i :: as').reverse ++ r).map (zconc ad)) = (as'.map (zconc ad)).reverse ++ .ref (ad tg i) :: r.map (zconc ad) := by simp [zconc]
  rw [hst]
  refine zx_run hF run hS fun H1 locs1 hP1 hS1 => ?_
  rw [zmap_toList]
  exact hK v w' hkf (zv_opt hvv vr) hvl H1 locs1 ls hP1 hS1 hL
theorem zck_S {ρ : Type} {X : ρ} {k n : Nat} {y : MethodName} {cc' : ByteArray} {nL' : Nat} {rt' : Option FieldType} {fr lc : Nat} {F : ZCall ρ} (hF : zMF p s m args c cc nL own Ts D ad cA A) (hcr : cells ≤ R.cells ∧ slots ≤ R.slots)
    (hl : Cond.methodLink own k y ∈ lw_tbl) (hi : Cond.static y ∈ lw_tbl) (hini : Cond.initialized y.cls ∈ lw_tbl) (hco : Cond.code y cc' nL' rt' ∈ lw_tbl)
    (hd : y.cls ≠ "java/lang/invoke/MethodHandle" ∧ y.cls ≠ "java/lang/invoke/VarHandle" ∧ (parseMethodDescriptor y.desc).map (fun d => d.parameters.length) = some n) (hR : fr + 1 ≤ R.frames ∧ 8 + (nL' + 11) + lc ≤ R.locals)
    (hct : zAns l D ad cA y cc' nL' rt' fr lc X (fun _ => True) F) : zCk p l e R s m args below meth c cells slots Q cc nL D ad cA A X (.invokestatic k) (n, F) := by
  intro pc as r lo w Kf hdc hn h8 hX hK hv hvl H locs ls hP hS hL
  obtain ⟨va, vr⟩ := zv_rev hv
  obtain ⟨v, w', -, hkf, hvv, hM⟩ := hct as w Kf va hX
  obtain ⟨hx, hb, hml, hown, hts, hT, hKs, hI, hA⟩ := id hF
  have W0 : ∀ w, w ∈ lw_tbl → goodWord w = true → w.before args s = true := fun w h g => hts w (hT w (zW0_mem h g))
  have cw : CallB R s args own k y cc' nL' rt' (zTs y cc' nL' rt') (zroom fr lc) 0 0 n ∧ (Cond.static y).before args s = true := ⟨callB_of n hts (zGood hT hco) rfl rfl rfl (W0 _ hini rfl) (W0 _ hl rfl) hd hR, W0 _ hi rfl⟩
  obtain ⟨lv, hl1, -⟩ := id hL
  have run := va_runS (As := as.map (zconc ad)) (rest := r.map (zconc ad)) (g := F0 m pc ls ((as.map (zconc ad)).reverse ++ r.map (zconc ad))) (locs := locs) (cells := cells) (slots := slots) (below := below) (meth := meth) (e := e) (H := H) ⟨hx, hb, hml, hown, hts⟩ hM cw
    ⟨zPc_blind, fun U hU hW => ⟨rfl, hKs.moved hW, by rw [hU]; exact hP.moved hW.alike⟩⟩ rfl (by simpa using hn) hl1.1 rfl (by show 2 * 0 + _ ≤ 8; rw [zcat_sum]; omega) hdc ⟨hcr.1, hcr.2⟩
  have hst : ((as.reverse ++ r).map (zconc ad)) = (as.map (zconc ad)).reverse ++ r.map (zconc ad) := by simp
  rw [hst]
  refine zx_run hF run hS fun H1 locs1 hP1 hS1 => ?_
  rw [zmap_toList]
  exact hK v w' hkf (zv_opt hvv vr) hvl H1 locs1 ls hP1 hS1 hL
theorem zck_SN {ρ : Type} {X : ρ} {k n : Nat} {y : MethodName} {host : String} {cc' : ByteArray} {nL' : Nat} {rt' : Option FieldType} {fr lc : Nat} {F : ZCall ρ} (hF : zMF p s m args c cc nL own Ts D ad cA A) (hcr : cells ≤ R.cells ∧ slots ≤ R.slots)
    (hl : Cond.methodLinkNest own k y host ∈ lw_tbl) (hi : Cond.static y ∈ lw_tbl) (hini : Cond.initialized y.cls ∈ lw_tbl) (hco : Cond.code y cc' nL' rt' ∈ lw_tbl)
    (hd : y.cls ≠ "java/lang/invoke/MethodHandle" ∧ y.cls ≠ "java/lang/invoke/VarHandle" ∧ (parseMethodDescriptor y.desc).map (fun d => d.parameters.length) = some n) (hR : fr + 1 ≤ R.frames ∧ 8 + (nL' + 11) + lc ≤ R.locals)
    (hct : zAns l D ad cA y cc' nL' rt' fr lc X (fun _ => True) F) : zCk p l e R s m args below meth c cells slots Q cc nL D ad cA A X (.invokestatic k) (n, F) := by
  intro pc as r lo w Kf hdc hn h8 hX hK hv hvl H locs ls hP hS hL
  obtain ⟨va, vr⟩ := zv_rev hv
  obtain ⟨v, w', -, hkf, hvv, hM⟩ := hct as w Kf va hX
  obtain ⟨hx, hb, hml, hown, hts, hT, hKs, hI, hA⟩ := id hF
  have W0 : ∀ w, w ∈ lw_tbl → goodWord w = true → w.before args s = true := fun w h g => hts w (hT w (zW0_mem h g))
  have cw := va_cnB (R := R) (args := args) (mc := 0) (ms := 0) n hts (zGood hT hco) rfl (show (zroom fr lc).cells = 0 from rfl) (show (zroom fr lc).slots = 0 from rfl) (hKs.2 _ hl rfl) (W0 _ hini rfl) hd hR
  obtain ⟨lv, hl1, -⟩ := id hL
  have run := va_runSN (As := as.map (zconc ad)) (rest := r.map (zconc ad)) (g := F0 m pc ls ((as.map (zconc ad)).reverse ++ r.map (zconc ad))) (locs := locs) (cells := cells) (slots := slots) (below := below) (meth := meth) (e := e) (H := H) ⟨hx, hb, hml, hown, hts⟩ hM ⟨cw, W0 _ hi rfl, trivial⟩
    ⟨zPc_blind, fun U hU hW => ⟨rfl, hKs.moved hW, by rw [hU]; exact hP.moved hW.alike⟩⟩ rfl (by simpa using hn) hl1.1 rfl (by show 2 * 0 + _ ≤ 8; rw [zcat_sum]; omega) hdc ⟨hcr.1, hcr.2⟩
  have hst : ((as.reverse ++ r).map (zconc ad)) = (as.map (zconc ad)).reverse ++ r.map (zconc ad) := by simp
  rw [hst]
  refine zx_run hF run hS fun H1 locs1 hP1 hS1 => ?_
  rw [zmap_toList]
  exact hK v w' hkf (zv_opt hvv vr) hvl H1 locs1 ls hP1 hS1 hL
def zCopy {ρ : Type} : ZCall ρ := fun as w K => pR as fun t0 i0 r => pI r fun sp r => pR r fun t1 i1 r => pI r fun dp r => pI r fun n r => pE r (zif (Nat.beq (zkd t0) 1 && Nat.beq (zkd t1) 1) (if sp < 0 ∨ dp < 0 ∨ n < 0 ∨ zlen t0 i0 w < sp.toNatClampNeg + n.toNatClampNeg ∨ zlen t1 i1 w < dp.toNatClampNeg + n.toNatClampNeg then none else K none (wC w t0 i0 sp.toNatClampNeg t1 i1 dp.toNatClampNeg n.toNatClampNeg)))
theorem lfc_copy {ρ : Type} : LfC (zCopy (ρ := ρ)) := fun as w K X h => by
  obtain ⟨t0, i0, r, rfl, h1⟩ := pR_inv h
  obtain ⟨sp, r, rfl, h2⟩ := pI_inv h1
  obtain ⟨t1, i1, r, rfl, h3⟩ := pR_inv h2
  obtain ⟨dp, r, rfl, h4⟩ := pI_inv h3
  obtain ⟨n, r, rfl, h5⟩ := pI_inv h4
  obtain ⟨rfl, h6⟩ := pE_inv h5
  obtain ⟨hk, h7⟩ := zif_inv h6
  split at h7
  · cases h7
  · rename_i hc
    refine ⟨_, _, h7, fun K' h' => ?_⟩
    simp only [zCopy, pR, pI, pE, zif, hk]
    rw [if_neg hc]
    exact h'
theorem zck_copy {ρ : Type} {X : ρ} {k : Nat} (hF : zMF p s m args c cc nL own Ts D ad cA A) (hl : Cond.methodLink own k arraycopyName ∈ lw_tbl) (hnat : Cond.native arraycopyName ∈ lw_tbl) (hstat : Cond.static arraycopyName ∈ lw_tbl) (hini : Cond.initialized "java/lang/System" ∈ lw_tbl) (hfr : 1 ≤ R.frames ∧ 26 ≤ R.locals) :
    zCk p l e R s m args below meth c cells slots Q cc nL D ad cA A X (.invokestatic k) (5, zCopy) := by
  intro pc as r lo w Kf hdc hn h8 hX hK hv hvl H locs ls hP hS hL
  obtain ⟨va, vr⟩ := zv_rev hv
  simp only [zCopy] at hX
  obtain ⟨t0, i0, r1, rfl, h1⟩ := pR_inv hX
  obtain ⟨sp, r1, rfl, h2⟩ := pI_inv h1
  obtain ⟨t1, i1, r1, rfl, h3⟩ := pR_inv h2
  obtain ⟨dp, r1, rfl, h4⟩ := pI_inv h3
  obtain ⟨n, r1, rfl, h5⟩ := pI_inv h4
  obtain ⟨rfl, h6⟩ := pE_inv h5
  obtain ⟨hk, h7⟩ := zif_inv h6
  split at h7
  · cases h7
  rename_i hc
  obtain ⟨hx, hb, hml, hown, hts, hT, hKs, hI, hA⟩ := id hF
  have W0 : ∀ w, w ∈ lw_tbl → goodWord w = true → w.before args s = true := fun w h g => hts w (hT w (zW0_mem h g))
  obtain ⟨k0, k1⟩ := Bool.and_eq_true_iff.mp hk
  have k0 := Nat.eq_of_beq_eq_true k0
  have k1 := Nat.eq_of_beq_eq_true k1
  have hi0 : i0 < zcnt t0 := va _ List.mem_cons_self
  have hi1 : i1 < zcnt t1 := va (zr t1 i1) (by simp)
  have n0 : t0 ≠ 50 := zkd_ne50 (by omega)
  have n1 : t1 ≠ 50 := zkd_ne50 (by omega)
  have hc0 := hP.arr hi0 n0 (zcell_1 k0)
  have hc1 := hP.arr hi1 n1 (zcell_1 k1)
  simp only at hc0 hc1
  simp only [not_or] at hc
  obtain ⟨g1, g2, g3, g4, g5⟩ := hc
  have nn : ∀ z : Int32, ¬ z < 0 → z.toInt = (z.toNatClampNeg : Int) := by
    intro z hz
    have hz0 : (0 : Int) ≤ z.toInt := by
      have := Int32.not_lt.mp hz
      simpa using Int32.le_iff_toInt_le.mp this
    show z.toInt = ((z.toInt.toNat : Nat) : Int)
    omega
  obtain ⟨lv, hl1, -⟩ := id hL
  have hst : (([zr t0 i0, zi sp, zr t1 i1, zi dp, zi n].reverse ++ r).map (zconc ad)) = .int n :: .int dp :: .ref (ad t1 i1) :: .int sp :: .ref (ad t0 i0) :: r.map (zconc ad) := by simp [zconc]
  rw [hst]
  intro T hT X'
  obtain ⟨-, kk0, hk0, cm0, hkk0⟩ := hKs.arr.1 (zlen t0 i0 w) (fun j => .int (w.1 t0 i0 j))
  obtain ⟨-, kk1, hk1, cm1, hkk1⟩ := hKs.arr.1 (zlen t1 i1 w) (fun j => .int (w.1 t1 i1 j))
  obtain ⟨vm', X2, step⟩ := X'.arraycopy hx hown (W0 _ hl rfl) (W0 _ hnat rfl) (W0 _ hstat rfl) (W0 _ hini rfl) (src := ad t0 i0) (dst := ad t1 i1) (cs := vp_cell (cA 1) (zlen t0 i0 w, .inl (w.1 t0 i0))) (cd := vp_cell (cA 1) (zlen t1 i1 w, .inl (w.1 t1 i1))) (srcPos := sp) (destPos := dp) (n := n) (by rw [hT]; exact hc0) (by rw [hT]; exact hc1)
    (fun _ h => by cases h) (fun _ h => by cases h) (fun h => by cases h) (fun h => by cases h) hk0 hk1 hkk0 hkk1 (by simp [refKind]) g1 g2 g3
    (by rw [nn sp g1, nn n g3]; show ¬ _ > ((arrV (cA 1) (zlen t0 i0 w) (fun j => .int (w.1 t0 i0 j))).slots.size : Int); rw [arrV_size]; omega)
    (by rw [nn dp g2, nn n g3]; show ¬ _ > ((arrV (cA 1) (zlen t1 i1 w) (fun j => .int (w.1 t1 i1 j))).slots.size : Int); rw [arrV_size]; omega)
    (fun vm₁ _ i hi => by
      have e : (vp_cell (cA 1) (zlen t0 i0 w, .inl (w.1 t0 i0))).slots.getD (sp.toNatClampNeg + i) .null = .int (w.1 t0 i0 (sp.toNatClampNeg + i)) := by
        show (arrV (cA 1) (zlen t0 i0 w) (fun j => .int (w.1 t0 i0 j))).slots.getD _ _ = _
        rw [Array.getD_eq_getD_getElem?, arrV_read _ _ (by omega)]
        rfl
      refine ⟨?_, ?_⟩
      · rw [e]; rfl
      · rw [e]; exact trivial)
    (g := F0 m pc ls (.int n :: .int dp :: .ref (ad t1 i1) :: .int sp :: .ref (ad t0 i0) :: r.map (zconc ad))) rfl (by rw [hml]; exact hl1.1) (rest := r.map (zconc ad)) rfl (by rw [hb]; exact hdc) hfr.1 (by
      show 2 * 0 + _ + _ ≤ _
      rw [zcat_sum]
      have e7 : nativeFrameWords "java/lang/System" "arraycopy" 5 = 7 := by decide +kernel
      omega)
  have e1 : copied (vp_cell (cA 1) (zlen t0 i0 w, .inl (w.1 t0 i0))) (vp_cell (cA 1) (zlen t1 i1 w, .inl (w.1 t1 i1))) sp dp n = vp_cell (cA 1) (zlen t1 i1 w, .inl (va_cpy (w.1 t0 i0) (w.1 t1 i1) sp.toNatClampNeg dp.toNatClampNeg n.toNatClampNeg)) := va_copied (fun z => .int z) (cA 1) (cA 1) (w.1 t0 i0) (w.1 t1 i1) (by omega)
  rw [e1] at X2 step
  have hll : ad t1 i1 < H.size := (Array.getElem?_eq_some_iff.mp hc1).1
  have hheap : ((T.setVm vm').setCell (ad t1 i1) (vp_cell (cA 1) (zlen t1 i1 w, .inl (va_cpy (w.1 t0 i0) (w.1 t1 i1) sp.toNatClampNeg dp.toNatClampNeg n.toNatClampNeg)))).heap = H.setIfInBounds (ad t1 i1) (vp_cell (cA 1) (zlen t1 i1 w, .inl (va_cpy (w.1 t0 i0) (w.1 t1 i1) sp.toNatClampNeg dp.toNatClampNeg n.toNatClampNeg))) := by rw [← hT]; rfl
  have oq : ∀ q : Nat, q ≠ ad t1 i1 → (H.setIfInBounds (ad t1 i1) (vp_cell (cA 1) (zlen t1 i1 w, .inl (va_cpy (w.1 t0 i0) (w.1 t1 i1) sp.toNatClampNeg dp.toNatClampNeg n.toNatClampNeg))))[q]? = H[q]? := fun q hq => by simp [Array.getElem?_setIfInBounds, Ne.symm hq]
  have h51 : (wC w t0 i0 sp.toNatClampNeg t1 i1 dp.toNatClampNeg n.toNatClampNeg).1 51 0 0 = w.1 51 0 0 := congrFun (wC_ne w t0 i0 _ t1 i1 _ _ 51 0 (by
    rintro ⟨rfl, -⟩
    have h0 : zcnt 51 = 0 := by decide
    rw [h0] at hi1
    exact Nat.not_lt_zero _ hi1)).1 0
  have hP1 : zRep D ad cA (wC w t0 i0 sp.toNatClampNeg t1 i1 dp.toNatClampNeg n.toNatClampNeg) s (H.setIfInBounds (ad t1 i1) (vp_cell (cA 1) (zlen t1 i1 w, .inl (va_cpy (w.1 t0 i0) (w.1 t1 i1) sp.toNatClampNeg dp.toNatClampNeg n.toNatClampNeg)))) := by
    refine hP.change hI n1 hi1 (wC_ne w t0 i0 _ t1 i1 _ _) ?_ oq
    unfold va_at
    simp only [zcell_1 (w := wC w t0 i0 sp.toNatClampNeg t1 i1 dp.toNatClampNeg n.toNatClampNeg) k1]
    rw [zlen_eq h51, wC_self]
    simp [Array.getElem?_setIfInBounds, hll]
  obtain ⟨t, a1, b1⟩ := hK none _ h7 vr hvl _ _ ls hP1 ⟨by simp; exact hS.1, fun q g1 g2 => by
      rw [oq q (fun e => g2 (by rw [e]; exact hA t1 i1 n1 hi1))]
      exact hS.2.1 q g1 g2, fun q hq => by
      rcases List.mem_append.mp hq with h | h
      · exact hS.2.2 q h
      · obtain ⟨z, -, hz⟩ := List.mem_map.mp h
        rw [← hz]
        exact hA t1 i1 n1 hi1⟩ hL _ hheap X2
  exact ⟨t, step t a1, b1⟩
end CA
theorem tw1 {i : Nat} {w : Cond} (h : tables_1_1[i]? = some w) : w ∈ lw_tbl := List.mem_append_right _ (List.mem_append_left _ (List.mem_of_getElem? h))
theorem tw2 {i : Nat} {w : Cond} (h : tables_1_2[i]? = some w) : w ∈ lw_tbl := List.mem_append_right _ (List.mem_append_right _ (List.mem_append_left _ (List.mem_of_getElem? h)))
theorem tw3 {i : Nat} {w : Cond} (h : tables_1_3[i]? = some w) : w ∈ lw_tbl := List.mem_append_right _ (List.mem_append_right _ (List.mem_append_right _ (List.mem_of_getElem? h)))
theorem twp {y : MethodName} {n : Nat} (h : (y, n) ∈ lw_privs) : Cond.selects y.cls y y ∈ lw_tbl := List.mem_append_left _ (List.mem_map.mpr ⟨(y, n), h, rfl⟩)
/-- what a call of a method needs of the tables -/
def zLkV (y : MethodName) (cc : ByteArray) (nL : Nat) (rt : Option FieldType) (tg n : Nat) : Prop :=
  Cond.instanceMethod y ∈ lw_tbl ∧ Cond.selects y.cls y y ∈ lw_tbl ∧ Cond.initialized y.cls ∈ lw_tbl ∧ Cond.code y cc nL rt ∈ lw_tbl ∧ (∃ T N, vwCl[tg]? = some (y.cls, T, N)) ∧ zkd tg = 0 ∧ y.cls ≠ "java/lang/invoke/MethodHandle" ∧ y.cls ≠ "java/lang/invoke/VarHandle" ∧ (parseMethodDescriptor y.desc).map (fun d => d.parameters.length) = some n
def zLkS (y : MethodName) (cc : ByteArray) (nL : Nat) (rt : Option FieldType) (n : Nat) : Prop :=
  Cond.static y ∈ lw_tbl ∧ Cond.initialized y.cls ∈ lw_tbl ∧ Cond.code y cc nL rt ∈ lw_tbl ∧ y.cls ≠ "java/lang/invoke/MethodHandle" ∧ y.cls ≠ "java/lang/invoke/VarHandle" ∧ (parseMethodDescriptor y.desc).map (fun d => d.parameters.length) = some n
section CB
variable {p : Program} {l : Launch} {e : Env} {R : Room} {s : State} {m : MethodId} {args : Array Value} {below : List Frame} {meth : Method} {c : Code} {cells slots : Nat} {Q : State → Prop} {cc : ByteArray} {nL : Nat} {own : String} {Ts : List Cond} {D : va_G} {ad : Nat → Nat → Nat} {cA : Nat → ClassId} {A : Nat → Prop}
theorem zcv {ρ : Type} {X : ρ} {k key n : Nat} {y : MethodName} {cc' : ByteArray} {nL' : Nat} {rt' : Option FieldType} {fr lc tg : Nat} {F : ZCall ρ} (hF : zMF p s m args c cc nL own Ts D ad cA A) (hcr : cells ≤ R.cells ∧ slots ≤ R.slots) (hkey : key = 2 * k)
    (hl : Cond.methodLink own k y ∈ lw_tbl) (hk : zLkV y cc' nL' rt' tg n) (hR : fr + 1 ≤ R.frames ∧ 8 + (nL' + 11) + lc ≤ R.locals) (hct : zAns l D ad cA y cc' nL' rt' fr lc X (fun as => ∃ i as', as = zr tg i :: as') F) :
    (∀ k', (key, n + 1, F).1 = 2 * k' → zCk p l e R s m args below meth c cells slots Q cc nL D ad cA A X (.invokevirtual k') (n + 1, F)) ∧ ∀ k', (key, n + 1, F).1 = 2 * k' + 1 → zCk p l e R s m args below meth c cells slots Q cc nL D ad cA A X (.invokestatic k') (n + 1, F) := by
  obtain ⟨h1, h2, h3, h4, ⟨T, N, h5⟩, h6, h7, h8, h9⟩ := hk
  refine ⟨fun k' hk' => ?_, fun k' hk' => ?_⟩
  · simp only at hk'
    have e : k' = k := by omega
    rw [e]
    exact zck_V hF hcr hl h1 h2 h3 h4 h5 h6 ⟨h7, h8, h9⟩ hR hct
  · simp only at hk'
    omega
theorem zcs {ρ : Type} {X : ρ} {k key n : Nat} {y : MethodName} {cc' : ByteArray} {nL' : Nat} {rt' : Option FieldType} {fr lc : Nat} {F : ZCall ρ} (hF : zMF p s m args c cc nL own Ts D ad cA A) (hcr : cells ≤ R.cells ∧ slots ≤ R.slots) (hkey : key = 2 * k + 1)
    (hl : Cond.methodLink own k y ∈ lw_tbl) (hk : zLkS y cc' nL' rt' n) (hR : fr + 1 ≤ R.frames ∧ 8 + (nL' + 11) + lc ≤ R.locals) (hct : zAns l D ad cA y cc' nL' rt' fr lc X (fun _ => True) F) :
    (∀ k', (key, n, F).1 = 2 * k' → zCk p l e R s m args below meth c cells slots Q cc nL D ad cA A X (.invokevirtual k') (n, F)) ∧ ∀ k', (key, n, F).1 = 2 * k' + 1 → zCk p l e R s m args below meth c cells slots Q cc nL D ad cA A X (.invokestatic k') (n, F) := by
  obtain ⟨h1, h3, h4, h7, h8, h9⟩ := hk
  refine ⟨fun k' hk' => ?_, fun k' hk' => ?_⟩
  · simp only at hk'
    omega
  · simp only at hk'
    have e : k' = k := by omega
    rw [e]
    exact zck_S hF hcr hl h1 h3 h4 ⟨h7, h8, h9⟩ hR hct
theorem zcn {ρ : Type} {X : ρ} {k key n : Nat} {y : MethodName} {host : String} {cc' : ByteArray} {nL' : Nat} {rt' : Option FieldType} {fr lc : Nat} {F : ZCall ρ} (hF : zMF p s m args c cc nL own Ts D ad cA A) (hcr : cells ≤ R.cells ∧ slots ≤ R.slots) (hkey : key = 2 * k + 1)
    (hl : Cond.methodLinkNest own k y host ∈ lw_tbl) (hk : zLkS y cc' nL' rt' n) (hR : fr + 1 ≤ R.frames ∧ 8 + (nL' + 11) + lc ≤ R.locals) (hct : zAns l D ad cA y cc' nL' rt' fr lc X (fun _ => True) F) :
    (∀ k', (key, n, F).1 = 2 * k' → zCk p l e R s m args below meth c cells slots Q cc nL D ad cA A X (.invokevirtual k') (n, F)) ∧ ∀ k', (key, n, F).1 = 2 * k' + 1 → zCk p l e R s m args below meth c cells slots Q cc nL D ad cA A X (.invokestatic k') (n, F) := by
  obtain ⟨h1, h3, h4, h7, h8, h9⟩ := hk
  refine ⟨fun k' hk' => ?_, fun k' hk' => ?_⟩
  · simp only at hk'
    omega
  · simp only at hk'
    have e : k' = k := by omega
    rw [e]
    exact zck_SN hF hcr hl h1 h3 h4 ⟨h7, h8, h9⟩ hR hct
theorem zcc {ρ : Type} {X : ρ} {k key : Nat} (hF : zMF p s m args c cc nL own Ts D ad cA A) (hkey : key = 2 * k + 1) (hl : Cond.methodLink own k arraycopyName ∈ lw_tbl) (hfr : 1 ≤ R.frames ∧ 26 ≤ R.locals) :
    (∀ k', (key, 5, zCopy (ρ := ρ)).1 = 2 * k' → zCk p l e R s m args below meth c cells slots Q cc nL D ad cA A X (.invokevirtual k') (5, zCopy)) ∧ ∀ k', (key, 5, zCopy (ρ := ρ)).1 = 2 * k' + 1 → zCk p l e R s m args below meth c cells slots Q cc nL D ad cA A X (.invokestatic k') (5, zCopy) := by
  refine ⟨fun k' hk' => ?_, fun k' hk' => ?_⟩
  · simp only at hk'
    omega
  · simp only at hk'
    have e : k' = k := by omega
    rw [e]
    exact zck_copy hF hl (tw2 (i := 4) rfl) (tw2 (i := 3) rfl) (tw1 (i := 9) rfl) hfr
theorem zml_nil {ρ : Type} {P : Instr → Nat × ZCall ρ → Prop} : zMl P [] := fun _ h => by cases h
theorem zml_cons {ρ : Type} {P : Instr → Nat × ZCall ρ → Prop} {q : Nat × Nat × ZCall ρ} {cM : List (Nat × Nat × ZCall ρ)} (h : (∀ k, q.1 = 2 * k → P (.invokevirtual k) q.2) ∧ ∀ k, q.1 = 2 * k + 1 → P (.invokestatic k) q.2) (h2 : zMl P cM) : zMl P (q :: cM) := List.forall_mem_cons.mpr ⟨h, h2⟩
theorem lfm_cons {ρ : Type} {q : Nat × Nat × ZCall ρ} {cM : List (Nat × Nat × ZCall ρ)} (h : LfC q.2.2) (h2 : ∀ q ∈ cM, LfC q.2.2) : ∀ q' ∈ q :: cM, LfC q'.2.2 := (List.forall_mem_cons (p := fun q : Nat × Nat × ZCall ρ => LfC q.2.2)).mpr ⟨h, h2⟩
theorem lfm_n {ρ : Type} : ∀ q ∈ ([] : List (Nat × Nat × ZCall ρ)), LfC q.2.2 := fun _ h => by cases h
end CB
def zMaxC {ρ : Type} : ZCall ρ := fun as w K => pI as fun x r => pI r fun y r => pE r (K (some (zi (if x < y then y else x))) w)
theorem lfc_max {ρ : Type} : LfC (zMaxC (ρ := ρ)) := fun as w K X h => by
  obtain ⟨x, r, rfl, h1⟩ := pI_inv h
  obtain ⟨y, r, rfl, h2⟩ := pI_inv h1
  obtain ⟨rfl, h3⟩ := pE_inv h2
  exact ⟨_, _, h3, fun K' h' => h'⟩
section CM
variable {p : Program} {l : Launch} {e : Env} {R : Room} {s : State} {m : MethodId} {args : Array Value} {below : List Frame} {meth : Method} {c : Code} {cells slots : Nat} {Q : State → Prop} {cc : ByteArray} {nL : Nat} {own : String} {Ts : List Cond} {D : va_G} {ad : Nat → Nat → Nat} {cA : Nat → ClassId} {A : Nat → Prop}
theorem zcm {ρ : Type} {X : ρ} {k key : Nat} (hF : zMF p s m args c cc nL own Ts D ad cA A) (hcr : cells ≤ R.cells ∧ slots ≤ R.slots) (hkey : key = 2 * k + 1) (hl : Cond.methodLink own k Lib.Math.max.name ∈ lw_tbl) (hco : Cond.code Lib.Math.max.name Lib.Math.max.code 2 (some .int) ∈ lw_tbl) (hfr : 1 ≤ R.frames ∧ 21 ≤ R.locals) :
    (∀ k', (key, 2, zMaxC (ρ := ρ)).1 = 2 * k' → zCk p l e R s m args below meth c cells slots Q cc nL D ad cA A X (.invokevirtual k') (2, zMaxC)) ∧ ∀ k', (key, 2, zMaxC (ρ := ρ)).1 = 2 * k' + 1 → zCk p l e R s m args below meth c cells slots Q cc nL D ad cA A X (.invokestatic k') (2, zMaxC) := by
  refine ⟨fun k' hk' => ?_, fun k' hk' => ?_⟩
  · simp only at hk'
    omega
  · simp only at hk'
    have e : k' = k := by omega
    rw [e]
    intro pc as r lo w Kf hdc hn h8 hX hK hv hvl H locs ls hP hS hL
    obtain ⟨va, vr⟩ := zv_rev hv
    simp only [zMaxC] at hX
    obtain ⟨x, r1, rfl, h1⟩ := pI_inv hX
    obtain ⟨y, r1, rfl, h2⟩ := pI_inv h1
    obtain ⟨rfl, h3⟩ := pE_inv h2
    obtain ⟨hx, hb, hml, hown, hts, hT, hKs, hI, hA⟩ := id hF
    have W0 : ∀ w, w ∈ lw_tbl → goodWord w = true → w.before args s = true := fun w h g => hts w (hT w (zW0_mem h g))
    obtain ⟨lv, hl1, -⟩ := id hL
    have hst : (([zi x, zi y].reverse ++ r).map (zconc ad)) = .int y :: .int x :: r.map (zconc ad) := by simp [zconc]
    rw [hst]
    exact va_mmax hx hb (hml.trans hl1.1.symm) hown (W0 _ hl rfl) (W0 _ (tw3 (i := 38) rfl) rfl) (W0 _ (tw1 (i := 11) rfl) rfl) (W0 _ hco rfl) hfr.1 (by rw [zcat_sum]; omega) hcr.1 hcr.2 hdc (hK _ _ h3 (zv_cons trivial vr) hvl H locs ls hP hS hL)
end CM
