/-! CONSTRUCTORS: what they leave. -/
section KT
variable {D : va_G} {cA : Nat → ClassId} {s : State} {cl : List vw_C}
def kTy (cA : Nat → ClassId) : List (ClassId × FieldType) := [(cA 1, .int), (cA 2, .boolean), (cA 3, .long), (cA 4, .object "SleepSteps$State")]
theorem k_int {x : ClassId} (h : va_K D cl (kTy cA ++ [(x, .int)]) s) : x = cA 1 := by
  have h1 := va_nm_int (h.2 0 (cA 1, .int) rfl).2
  have h2 := va_nm_int (h.2 4 (x, .int) rfl).2
  rw [h1] at h2
  exact (Option.some.inj h2).symm
theorem k_long {x : ClassId} (h : va_K D cl (kTy cA ++ [(x, .long)]) s) : x = cA 3 := by
  have h1 := va_nm_long (h.2 2 (cA 3, .long) rfl).2
  have h2 := va_nm_long (h.2 4 (x, .long) rfl).2
  rw [h1] at h2
  exact (Option.some.inj h2).symm
theorem k_bool {x : ClassId} (h : va_K D cl (kTy cA ++ [(x, .boolean)]) s) : x = cA 2 := by
  have h1 := va_nm_boolean (h.2 1 (cA 2, .boolean) rfl).2
  have h2 := va_nm_boolean (h.2 4 (x, .boolean) rfl).2
  rw [h1] at h2
  exact (Option.some.inj h2).symm
/-- what a constructor needs of the tables, and keeps -/
def kK (D : va_G) (cA : Nat → ClassId) (s : State) : Prop := va_K D vwCl (kTy cA) s ∧ (∀ w ∈ lw_tbl, zNest w = true → va_Nw w s) ∧ va_AO "SleepSteps$State" s
theorem kK.zK {D : va_G} {cA : Nat → ClassId} {s : State} (h : kK D cA s) : zK D cA s := ⟨h.1, h.2.1⟩
theorem kK.moved {D : va_G} {cA : Nat → ClassId} {s U : State} (hW : s.WarmedH U.vm) (h : kK D cA s) : kK D cA U := by
  have h1 := zK.moved hW h.zK
  exact ⟨h1.1, h1.2, va_AO.moved hW.alike h.2.2⟩
/-- from its own fresh cell a constructor leaves a pattern -/
def kCt (l : Launch) (D : va_G) (cA : Nat → ClassId) (y : MethodName) (cc : ByteArray) (nL fr lc mc ms ci : Nat) (fs : List Value) (pat : (Nat → Nat) → va_W) : Prop :=
  ∀ h0 sz : Nat, Met l y (zTs y cc nL none) { frames := fr, cells := mc, slots := ms, locals := lc } (va_Pc [.ref h0] (fun U => U.heap.size = sz ∧ va_P D vwCl [(h0, .inr (ci, fs))] U.heap ∧ kK D cA U ∧ va_D (fun _ => True) [(h0, .inr (ci, fs))]))
    (va_Qv (fun u : Nat → Nat => u 0 = h0) (fun u t => va_P D vwCl (pat u) t.heap ∧ kK D cA t ∧ va_D (va_A [(h0, .inr (ci, fs))] sz) (pat u)) (va_A [(h0, .inr (ci, fs))] sz)) mc ms (va_A [(h0, .inr (ci, fs))] sz)
def pat_X3 (cA : Nat → ClassId) (u : Nat → Nat) : va_W := [(u 0, .inr (3, [.ref (u 1), .int 0])), (u 1, .inl (cA 1, 24, .inl fun _ => 0))]
theorem zT0 {y : MethodName} {cc : ByteArray} {nL : Nat} {rt : Option FieldType} {args : Array Value} (hts : ∀ w ∈ zTs y cc nL rt, w.before args s = true) {w : Cond} (h : w ∈ lw_tbl) (hg : goodWord w = true) : w.before args s = true := hts w (zTs_W0 _ (zW0_mem h hg))
set_option maxHeartbeats 4000000 in
set_option maxRecDepth 100000 in
theorem k_X3_init {l : Launch} : kCt l D cA yX3_init cX3_init 1 1 12 1 24 3 [.null, .int 0] (pat_X3 cA) := by
  intro h0 sz
  refine Met.ofW (cc := cX3_init) (maxL := 1) (ret := none) (by decide) rfl ?_
  intro p e s m args below meth c s₁ B hml hv
  obtain ⟨rfl, hsz, hP, hK, hD0⟩ := hv
  have hx := B.exec
  have hb := B.bytes
  have hr := B.returns
  have hts := atoms_spec (ws := zTs yX3_init cX3_init 1 none) B.pre
  have hown : s.vm.findClass RX3 = some m.cls := findClass_of_methodNamed B.named
  have hin : meth.name = "<init>" := (name_of_methodNamed B.named B.method).1
  subst hsz
  have hD := hD0.self (sz := s.heap.size)
  generalize hAe : va_A [(h0, .inr (3, [.null, .int 0]))] s.heap.size = A at hD ⊢
  have hA : ∀ q : Nat, s.heap.size ≤ q → A q := fun q h => by rw [← hAe]; exact Or.inr h
  have hS : va_S A s.heap s.heap [] := va_S.rf
  have hl := lv_entry ([.ref h0]) (n := 1) (Nat.le_of_ble_eq_true rfl)
  rw [lg_entry_eq]
  generalize (lg_sl ([.ref h0]) ++ List.replicate (1 - (lg_sl ([.ref h0])).length) Slot.unset).toArray = ls at hl ⊢
  have hl : lv_has ls 1 [(0, .ref h0)] := hl
  refine lv_aload_n hx hb dX3_init_0 rfl (lv_at hl 0 rfl) ?_
  refine W.objInit hx hb hown (zT0 hts (tw1 (i := 58) rfl) rfl) (zT0 hts (tw1 (i := 18) rfl) rfl) (zT0 hts (tw1 (i := 19) rfl) rfl) rfl (by rw [hml]; exact hl.1) rfl dX3_init_1 (Nat.le_of_ble_eq_true rfl) (Nat.le_of_ble_eq_true rfl) ?_
  refine W.eq (g2 := F0 m 4 ls []) rfl ?_
  refine lv_aload_n hx hb dX3_init_4 rfl (lv_at hl 0 rfl) ?_
  refine lv_bipush (v := 24) hx hb dX3_init_5 (by decide) ?_
  refine va_newa (atype := .int) (ty := .int) (N' := 24) (a0 := (24, .inl fun _ => 0)) hx hb (zT0 hts (tw1 (i := 33) rfl) rfl) rfl hK.1 hP hD hS hA (fun _ => rfl) (by decide) (by decide) (by decide) (Nat.le_of_ble_eq_true rfl) (Nat.le_of_ble_eq_true rfl) dX3_init_7 (fun q1 x1 H hK1 hP hD hS => ?_)
  have e1 := k_int hK1
  subst e1
  refine va_putF (D := D) (ci := 3) (v := .ref q1) (ty := tyX3 0) (C := RX3) (T := TX3) (N := 2) hx hb (fun w hw => hts w (zTs_W0 _ hw)) zw_X3 tyX3 tyX3_ok nmX3 hown hK.1 hP hD hS 0 rfl rfl 0 (by decide) (zT0 hts (tw1 (i := 59) rfl) rfl) (fun _ h9 => h9) rfl hin rfl (by decide +kernel) rfl rfl (Nat.le_of_ble_eq_true rfl) dX3_init_9 (fun H locs hP hD hS => ?_)
  refine W.widen (k := 1) (n := 24) (by omega) (by omega) ?_
  let u : Nat → Nat := fun k => [h0, q1].getD k 0
  exact W.vret hx hb hr (fun t ht hW => ⟨⟨u, rfl, rfl, by rw [ht]; exact hP, hK.moved hW, hD⟩, hS.F ht⟩) hS.2.2 dX3_init_12
end KT
