/-! CONSTRUCTORS, an instruction a row (written by gen_ctor.py). -/
section KG
variable {D : va_G} {cA : Nat → ClassId}
theorem k_obj {s : State} {cl : List vw_C} {x : ClassId} (h : va_K D cl (kTy cA ++ [(x, .object "SleepSteps$State")]) s) : x = cA 4 := by
  have h1 := va_nmO (h.2 3 (cA 4, .object "SleepSteps$State") rfl).2 rfl
  have h2 := va_nmO (h.2 4 (x, .object "SleepSteps$State") rfl).2 rfl
  rw [h1] at h2
  exact (Option.some.inj h2).symm
theorem k_dfl0 : ∀ j, j < 3 → defaultValue (tyX0 j) = vp_V [.null, .int 0, .int 0] j := fun j hj => by
  rcases (show j = 0 ∨ j = 1 ∨ j = 2 by omega) with rfl | rfl | rfl <;> rfl
theorem k_dfl1 : ∀ j, j < 2 → defaultValue (tyX1 j) = vp_V [.null, .int 0] j := fun j hj => by
  rcases (show j = 0 ∨ j = 1 by omega) with rfl | rfl <;> rfl
theorem k_dfl2 : ∀ j, j < 2 → defaultValue (tyX2 j) = vp_V [.null, .null] j := fun j hj => by
  rcases (show j = 0 ∨ j = 1 by omega) with rfl | rfl <;> rfl
theorem k_dfl3 : ∀ j, j < 2 → defaultValue (tyX3 j) = vp_V [.null, .int 0] j := fun j hj => by
  rcases (show j = 0 ∨ j = 1 by omega) with rfl | rfl <;> rfl
theorem k_dfl4 : ∀ j, j < 6 → defaultValue (tyX4 j) = vp_V [.null, .null, .null, .int 0, .int 0, .null] j := fun j hj => by
  rcases (show j = 0 ∨ j = 1 ∨ j = 2 ∨ j = 3 ∨ j = 4 ∨ j = 5 by omega) with rfl | rfl | rfl | rfl | rfl | rfl <;> rfl
theorem k_dfl5 : ∀ j, j < 12 → defaultValue (tyX5 j) = vp_V [.null, .int 0, .null, .null, .null, .int 0, .null, .long 0, .long 0, .int 0, .null, .null] j := fun j hj => by
  rcases (show j = 0 ∨ j = 1 ∨ j = 2 ∨ j = 3 ∨ j = 4 ∨ j = 5 ∨ j = 6 ∨ j = 7 ∨ j = 8 ∨ j = 9 ∨ j = 10 ∨ j = 11 by omega) with rfl | rfl | rfl | rfl | rfl | rfl | rfl | rfl | rfl | rfl | rfl | rfl <;> rfl
theorem k_dfl6 : ∀ j, j < 2 → defaultValue (tyX6 j) = vp_V [.null, .null] j := fun j hj => by
  rcases (show j = 0 ∨ j = 1 by omega) with rfl | rfl <;> rfl
theorem k_dfl7 : ∀ j, j < 11 → defaultValue (tyX7 j) = vp_V [.null, .null, .null, .null, .null, .null, .null, .null, .null, .null, .null] j := fun j hj => by
  rcases (show j = 0 ∨ j = 1 ∨ j = 2 ∨ j = 3 ∨ j = 4 ∨ j = 5 ∨ j = 6 ∨ j = 7 ∨ j = 8 ∨ j = 9 ∨ j = 10 by omega) with rfl | rfl | rfl | rfl | rfl | rfl | rfl | rfl | rfl | rfl | rfl <;> rfl
theorem k_dfl8 : ∀ j, j < 22 → defaultValue (tyX8 j) = vp_V [.null, .null, .int 0, .null, .int 0, .null, .null, .int 0, .null, .null, .null, .null, .long 0, .long 0, .int 0, .null, .null, .null, .int 0, .null, .null, .null] j := fun j hj => by
  rcases (show j = 0 ∨ j = 1 ∨ j = 2 ∨ j = 3 ∨ j = 4 ∨ j = 5 ∨ j = 6 ∨ j = 7 ∨ j = 8 ∨ j = 9 ∨ j = 10 ∨ j = 11 ∨ j = 12 ∨ j = 13 ∨ j = 14 ∨ j = 15 ∨ j = 16 ∨ j = 17 ∨ j = 18 ∨ j = 19 ∨ j = 20 ∨ j = 21 by omega) with rfl | rfl | rfl | rfl | rfl | rfl | rfl | rfl | rfl | rfl | rfl | rfl | rfl | rfl | rfl | rfl | rfl | rfl | rfl | rfl | rfl | rfl <;> rfl
def pat_X1 (cA : Nat → ClassId) (u : Nat → Nat) : va_W := [(u 0, .inr (1, [.ref (u 1), .int 0])), (u 1, .inl (cA 1, 40, .inl fun _ => 0))]
set_option maxHeartbeats 8000000 in
set_option maxRecDepth 100000 in
theorem k_X1_init {l : Launch} : kCt l D cA yX1_init cX1_init 1 1 12 1 40 1 [.null, .int 0] (pat_X1 cA) := by
  intro h0 sz
  refine Met.ofW (cc := cX1_init) (maxL := 1) (ret := none) (by decide) rfl ?_
  intro p e s m args below meth c s₁ B hml hv
  obtain ⟨rfl, hsz, hP, hK, hD0⟩ := hv
  have hx := B.exec
  have hb := B.bytes
  have hr := B.returns
  have hts := atoms_spec (ws := zTs yX1_init cX1_init 1 none) B.pre
  have hown : s.vm.findClass RX1 = some m.cls := findClass_of_methodNamed B.named
  have hin : meth.name = "<init>" := (name_of_methodNamed B.named B.method).1
  subst hsz
  have hD := hD0.self (sz := s.heap.size)
  generalize hAe : va_A [(h0, .inr (1, [.null, .int 0]))] s.heap.size = A at hD ⊢
  have hA : ∀ q : Nat, s.heap.size ≤ q → A q := fun q h => by rw [← hAe]; exact Or.inr h
  have hS : va_S A s.heap s.heap [] := va_S.rf
  have hl := lv_entry ([.ref h0]) (n := 1) (Nat.le_of_ble_eq_true rfl)
  rw [lg_entry_eq]
  generalize (lg_sl ([.ref h0]) ++ List.replicate (1 - (lg_sl ([.ref h0])).length) Slot.unset).toArray = ls at hl ⊢
  have hl : lv_has ls 1 [(0, .ref h0)] := hl
  refine lv_aload_n hx hb dX1_init_0 rfl (lv_at hl 0 rfl) ?_
  refine W.objInit hx hb hown (zT0 hts (tw1 (i := 26) rfl) rfl) (zT0 hts (tw1 (i := 19) rfl) rfl) (zT0 hts (tw1 (i := 20) rfl) rfl) rfl (by rw [hml]; exact hl.1) rfl dX1_init_1 (Nat.le_of_ble_eq_true rfl) (Nat.le_of_ble_eq_true rfl) ?_
  refine W.eq (g2 := F0 m 4 ls []) rfl ?_
  refine lv_aload_n hx hb dX1_init_4 rfl (lv_at hl 0 rfl) ?_
  refine lv_bipush (v := 40) hx hb dX1_init_5 (by decide) ?_
  refine va_newa (atype := .int) (ty := .int) (N' := 40) (a0 := (40, .inl fun _ => 0)) hx hb (zT0 hts (tw1 (i := 34) rfl) rfl) rfl hK.1 hP hD hS hA (fun _ => rfl) (by decide) (by decide) (by decide) (Nat.le_of_ble_eq_true rfl) (Nat.le_of_ble_eq_true rfl) dX1_init_7 (fun q1 x1 H hK1 hP hD hS => ?_)
  have e1 := k_int hK1
  subst e1
  refine W.widen (k := 1) (n := 40) (Nat.le_of_ble_eq_true rfl) (Nat.le_of_ble_eq_true rfl) ?_
  refine va_putF (D := D) (ci := 1) (v := .ref q1) (ty := tyX1 0) (C := RX1) (T := TX1) (N := 2) hx hb (fun w hw => hts w (zTs_W0 _ hw)) zw_X1 tyX1 tyX1_ok nmX1 hown hK.1 hP hD hS 0 rfl rfl 0 (by decide) (zT0 hts (tw1 (i := 27) rfl) rfl) (fun _ h9 => h9) rfl hin rfl (by decide +kernel) rfl rfl (Nat.le_of_ble_eq_true rfl) dX1_init_9 (fun H locs hP hD hS => ?_)
  let u : Nat → Nat := fun k => [h0, q1].getD k 0
  exact W.vret hx hb hr (fun t ht hW => ⟨⟨u, rfl, rfl, by rw [ht]; exact hP, hK.moved hW, hD⟩, hS.F ht⟩) hS.2.2 dX1_init_12

def pat_X2 (cA : Nat → ClassId) (u : Nat → Nat) : va_W := [(u 0, .inr (2, [.ref (u 1), .ref (u 2)])), (u 1, .inl (cA 1, 24, .inl fun _ => 0)), (u 2, .inl (cA 1, 4, .inl fun _ => 0))]
set_option maxHeartbeats 8000000 in
set_option maxRecDepth 100000 in
theorem k_X2_init {l : Launch} : kCt l D cA yX2_init cX2_init 1 1 12 2 28 2 [.null, .null] (pat_X2 cA) := by
  intro h0 sz
  refine Met.ofW (cc := cX2_init) (maxL := 1) (ret := none) (by decide) rfl ?_
  intro p e s m args below meth c s₁ B hml hv
  obtain ⟨rfl, hsz, hP, hK, hD0⟩ := hv
  have hx := B.exec
  have hb := B.bytes
  have hr := B.returns
  have hts := atoms_spec (ws := zTs yX2_init cX2_init 1 none) B.pre
  have hown : s.vm.findClass RX2 = some m.cls := findClass_of_methodNamed B.named
  have hin : meth.name = "<init>" := (name_of_methodNamed B.named B.method).1
  subst hsz
  have hD := hD0.self (sz := s.heap.size)
  generalize hAe : va_A [(h0, .inr (2, [.null, .null]))] s.heap.size = A at hD ⊢
  have hA : ∀ q : Nat, s.heap.size ≤ q → A q := fun q h => by rw [← hAe]; exact Or.inr h
  have hS : va_S A s.heap s.heap [] := va_S.rf
  have hl := lv_entry ([.ref h0]) (n := 1) (Nat.le_of_ble_eq_true rfl)
  rw [lg_entry_eq]
  generalize (lg_sl ([.ref h0]) ++ List.replicate (1 - (lg_sl ([.ref h0])).length) Slot.unset).toArray = ls at hl ⊢
  have hl : lv_has ls 1 [(0, .ref h0)] := hl
  refine lv_aload_n hx hb dX2_init_0 rfl (lv_at hl 0 rfl) ?_
  refine W.objInit hx hb hown (zT0 hts (tw1 (i := 46) rfl) rfl) (zT0 hts (tw1 (i := 19) rfl) rfl) (zT0 hts (tw1 (i := 20) rfl) rfl) rfl (by rw [hml]; exact hl.1) rfl dX2_init_1 (Nat.le_of_ble_eq_true rfl) (Nat.le_of_ble_eq_true rfl) ?_
  refine W.eq (g2 := F0 m 4 ls []) rfl ?_
  refine lv_aload_n hx hb dX2_init_4 rfl (lv_at hl 0 rfl) ?_
  refine lv_bipush (v := 24) hx hb dX2_init_5 (by decide) ?_
  refine va_newa (atype := .int) (ty := .int) (N' := 24) (a0 := (24, .inl fun _ => 0)) hx hb (zT0 hts (tw1 (i := 34) rfl) rfl) rfl hK.1 hP hD hS hA (fun _ => rfl) (by decide) (by decide) (by decide) (Nat.le_of_ble_eq_true rfl) (Nat.le_of_ble_eq_true rfl) dX2_init_7 (fun q1 x1 H hK1 hP hD hS => ?_)
  have e1 := k_int hK1
  subst e1
  refine W.widen (k := 1) (n := 24) (Nat.le_of_ble_eq_true rfl) (Nat.le_of_ble_eq_true rfl) ?_
  refine va_putF (D := D) (ci := 2) (v := .ref q1) (ty := tyX2 0) (C := RX2) (T := TX2) (N := 2) hx hb (fun w hw => hts w (zTs_W0 _ hw)) zw_X2 tyX2 tyX2_ok nmX2 hown hK.1 hP hD hS 0 rfl rfl 0 (by decide) (zT0 hts (tw1 (i := 47) rfl) rfl) (fun _ h9 => h9) rfl hin rfl (by decide +kernel) rfl rfl (Nat.le_of_ble_eq_true rfl) dX2_init_9 (fun H locs hP hD hS => ?_)
  refine lv_aload_n hx hb dX2_init_12 rfl (lv_at hl 0 rfl) ?_
  refine lv_iconst (v := 4) hx hb dX2_init_13 (by decide) ?_
  refine va_newa (atype := .int) (ty := .int) (N' := 4) (a0 := (4, .inl fun _ => 0)) hx hb (zT0 hts (tw1 (i := 34) rfl) rfl) rfl hK.1 hP hD hS hA (fun _ => rfl) (by decide) (by decide) (by decide) (Nat.le_of_ble_eq_true rfl) (Nat.le_of_ble_eq_true rfl) dX2_init_14 (fun q2 x2 H hK1 hP hD hS => ?_)
  have e1 := k_int hK1
  subst e1
  refine W.widen (k := 2) (n := 28) (Nat.le_of_ble_eq_true rfl) (Nat.le_of_ble_eq_true rfl) ?_
  refine va_putF (D := D) (ci := 2) (v := .ref q2) (ty := tyX2 1) (C := RX2) (T := TX2) (N := 2) hx hb (fun w hw => hts w (zTs_W0 _ hw)) zw_X2 tyX2 tyX2_ok nmX2 hown hK.1 hP hD hS 0 rfl rfl 1 (by decide) (zT0 hts (tw1 (i := 48) rfl) rfl) (fun _ h9 => h9) rfl hin rfl (by decide +kernel) rfl rfl (Nat.le_of_ble_eq_true rfl) dX2_init_16 (fun H locs hP hD hS => ?_)
  let u : Nat → Nat := fun k => [h0, q1, q2].getD k 0
  exact W.vret hx hb hr (fun t ht hW => ⟨⟨u, rfl, rfl, by rw [ht]; exact hP, hK.moved hW, hD⟩, hS.F ht⟩) hS.2.2 dX2_init_19

def pat_X6 (cA : Nat → ClassId) (u : Nat → Nat) : va_W := [(u 0, .inr (6, [.ref (u 1), .ref (u 4)])), (u 1, .inr (2, [.ref (u 2), .ref (u 3)])), (u 2, .inl (cA 1, 24, .inl fun _ => 0)), (u 3, .inl (cA 1, 4, .inl fun _ => 0)), (u 4, .inr (3, [.ref (u 5), .int 0])), (u 5, .inl (cA 1, 24, .inl fun _ => 0))]
set_option maxHeartbeats 8000000 in
set_option maxRecDepth 100000 in
theorem k_X6_init {l : Launch} : kCt l D cA yX6_init cX6_init 1 2 32 5 56 6 [.null, .null] (pat_X6 cA) := by
  intro h0 sz
  refine Met.ofW (cc := cX6_init) (maxL := 1) (ret := none) (by decide) rfl ?_
  intro p e s m args below meth c s₁ B hml hv
  obtain ⟨rfl, hsz, hP, hK, hD0⟩ := hv
  have hx := B.exec
  have hb := B.bytes
  have hr := B.returns
  have hts := atoms_spec (ws := zTs yX6_init cX6_init 1 none) B.pre
  have hown : s.vm.findClass RX6 = some m.cls := findClass_of_methodNamed B.named
  have hin : meth.name = "<init>" := (name_of_methodNamed B.named B.method).1
  subst hsz
  have hD := hD0.self (sz := s.heap.size)
  generalize hAe : va_A [(h0, .inr (6, [.null, .null]))] s.heap.size = A at hD ⊢
  have hA : ∀ q : Nat, s.heap.size ≤ q → A q := fun q h => by rw [← hAe]; exact Or.inr h
  have hS : va_S A s.heap s.heap [] := va_S.rf
  have hl := lv_entry ([.ref h0]) (n := 1) (Nat.le_of_ble_eq_true rfl)
  rw [lg_entry_eq]
  generalize (lg_sl ([.ref h0]) ++ List.replicate (1 - (lg_sl ([.ref h0])).length) Slot.unset).toArray = ls at hl ⊢
  have hl : lv_has ls 1 [(0, .ref h0)] := hl
  refine lv_aload_n hx hb dX6_init_0 rfl (lv_at hl 0 rfl) ?_
  refine W.objInit hx hb hown (zT0 hts (tw1 (i := 40) rfl) rfl) (zT0 hts (tw1 (i := 19) rfl) rfl) (zT0 hts (tw1 (i := 20) rfl) rfl) rfl (by rw [hml]; exact hl.1) rfl dX6_init_1 (Nat.le_of_ble_eq_true rfl) (Nat.le_of_ble_eq_true rfl) ?_
  refine W.eq (g2 := F0 m 4 ls []) rfl ?_
  refine lv_aload_n hx hb dX6_init_4 rfl (lv_at hl 0 rfl) ?_
  refine k_niN (ci := 2) ⟨hx, hb, hml, hown, hts⟩ (fun w hw => zTs_W0 _ (zw_X2 w hw)) tyX2 tyX2_ok (zT0 hts (tw1 (i := 41) rfl) rfl) (zT0 hts (tw1 (i := 42) rfl) rfl) (zT0 hts (tw1 (i := 4) rfl) rfl) hK hP hD hS hA rfl (k_dfl2) (k_X2_init (D := D) (cA := cA)) ⟨va_cnB 0 hts (zGood zTs_W0 (tw1 (i := 45) rfl)) rfl rfl rfl (hK.2 _ (tw1 (i := 43) rfl) rfl) (zT0 hts (tw1 (i := 4) rfl) rfl) ⟨by decide +kernel, by decide +kernel, by decide +kernel⟩ ⟨Nat.le_of_ble_eq_true rfl, Nat.le_of_ble_eq_true rfl⟩, rfl, (zT0 hts (tw1 (i := 44) rfl) rfl)⟩ hl.1 (Nat.le_of_ble_eq_true rfl) (Nat.le_of_ble_eq_true rfl) (Nat.le_of_ble_eq_true rfl) dX6_init_5 dX6_init_8 dX6_init_9 (fun u1 H locs hP hD hS => ?_)
  refine W.widen (k := 3) (n := 30) (Nat.le_of_ble_eq_true rfl) (Nat.le_of_ble_eq_true rfl) ?_
  refine va_putF (D := D) (ci := 6) (v := .ref (u1 0)) (ty := tyX6 0) (C := RX6) (T := TX6) (N := 2) hx hb (fun w hw => hts w (zTs_W0 _ hw)) zw_X6 tyX6 tyX6_ok nmX6 hown hK.1 hP hD hS 0 rfl rfl 0 (by decide) (zT0 hts (tw1 (i := 67) rfl) rfl) (fun _ h9 => h9) rfl hin rfl (by decide +kernel) rfl rfl (Nat.le_of_ble_eq_true rfl) dX6_init_12 (fun H locs hP hD hS => ?_)
  refine lv_aload_n hx hb dX6_init_15 rfl (lv_at hl 0 rfl) ?_
  refine k_niN (ci := 3) ⟨hx, hb, hml, hown, hts⟩ (fun w hw => zTs_W0 _ (zw_X3 w hw)) tyX3 tyX3_ok (zT0 hts (tw1 (i := 54) rfl) rfl) (zT0 hts (tw1 (i := 55) rfl) rfl) (zT0 hts (tw1 (i := 5) rfl) rfl) hK hP hD hS hA rfl (k_dfl3) (k_X3_init (D := D) (cA := cA)) ⟨va_cnB 0 hts (zGood zTs_W0 (tw1 (i := 58) rfl)) rfl rfl rfl (hK.2 _ (tw1 (i := 56) rfl) rfl) (zT0 hts (tw1 (i := 5) rfl) rfl) ⟨by decide +kernel, by decide +kernel, by decide +kernel⟩ ⟨Nat.le_of_ble_eq_true rfl, Nat.le_of_ble_eq_true rfl⟩, rfl, (zT0 hts (tw1 (i := 57) rfl) rfl)⟩ hl.1 (Nat.le_of_ble_eq_true rfl) (Nat.le_of_ble_eq_true rfl) (Nat.le_of_ble_eq_true rfl) dX6_init_16 dX6_init_19 dX6_init_20 (fun u2 H locs hP hD hS => ?_)
  refine W.widen (k := 5) (n := 56) (Nat.le_of_ble_eq_true rfl) (Nat.le_of_ble_eq_true rfl) ?_
  refine va_putF (D := D) (ci := 6) (v := .ref (u2 0)) (ty := tyX6 1) (C := RX6) (T := TX6) (N := 2) hx hb (fun w hw => hts w (zTs_W0 _ hw)) zw_X6 tyX6 tyX6_ok nmX6 hown hK.1 hP hD hS 0 rfl rfl 1 (by decide) (zT0 hts (tw1 (i := 69) rfl) rfl) (fun _ h9 => h9) rfl hin rfl (by decide +kernel) rfl rfl (Nat.le_of_ble_eq_true rfl) dX6_init_23 (fun H locs hP hD hS => ?_)
  let u : Nat → Nat := fun k => [h0, (u1 0), (u1 1), (u1 2), (u2 0), (u2 1)].getD k 0
  exact W.vret hx hb hr (fun t ht hW => ⟨⟨u, rfl, rfl, by rw [ht]; exact hP, hK.moved hW, hD⟩, hS.F ht⟩) hS.2.2 dX6_init_26

def pat_X0 (cA : Nat → ClassId) (u : Nat → Nat) : va_W := [(u 0, .inr (0, [.ref (u 1), .int 0, .int 0])), (u 1, .inl (cA 4, 6, .inr (.inr (.inr (.inr (va_up (va_up (va_up (va_up (va_up (va_up (fun _ => none) 0 (some (u 2))) 1 (some (u 8))) 2 (some (u 14))) 3 (some (u 20))) 4 (some (u 26))) 5 (some (u 32)))))))), (u 2, .inr (6, [.ref (u 3), .ref (u 6)])), (u 3, .inr (2, [.ref (u 4), .ref (u 5)])), (u 4, .inl (cA 1, 24, .inl fun _ => 0)), (u 5, .inl (cA 1, 4, .inl fun _ => 0)), (u 6, .inr (3, [.ref (u 7), .int 0])), (u 7, .inl (cA 1, 24, .inl fun _ => 0)), (u 8, .inr (6, [.ref (u 9), .ref (u 12)])), (u 9, .inr (2, [.ref (u 10), .ref (u 11)])), (u 10, .inl (cA 1, 24, .inl fun _ => 0)), (u 11, .inl (cA 1, 4, .inl fun _ => 0)), (u 12, .inr (3, [.ref (u 13), .int 0])), (u 13, .inl (cA 1, 24, .inl fun _ => 0)), (u 14, .inr (6, [.ref (u 15), .ref (u 18)])), (u 15, .inr (2, [.ref (u 16), .ref (u 17)])), (u 16, .inl (cA 1, 24, .inl fun _ => 0)), (u 17, .inl (cA 1, 4, .inl fun _ => 0)), (u 18, .inr (3, [.ref (u 19), .int 0])), (u 19, .inl (cA 1, 24, .inl fun _ => 0)), (u 20, .inr (6, [.ref (u 21), .ref (u 24)])), (u 21, .inr (2, [.ref (u 22), .ref (u 23)])), (u 22, .inl (cA 1, 24, .inl fun _ => 0)), (u 23, .inl (cA 1, 4, .inl fun _ => 0)), (u 24, .inr (3, [.ref (u 25), .int 0])), (u 25, .inl (cA 1, 24, .inl fun _ => 0)), (u 26, .inr (6, [.ref (u 27), .ref (u 30)])), (u 27, .inr (2, [.ref (u 28), .ref (u 29)])), (u 28, .inl (cA 1, 24, .inl fun _ => 0)), (u 29, .inl (cA 1, 4, .inl fun _ => 0)), (u 30, .inr (3, [.ref (u 31), .int 0])), (u 31, .inl (cA 1, 24, .inl fun _ => 0)), (u 32, .inr (6, [.ref (u 33), .ref (u 36)])), (u 33, .inr (2, [.ref (u 34), .ref (u 35)])), (u 34, .inl (cA 1, 24, .inl fun _ => 0)), (u 35, .inl (cA 1, 4, .inl fun _ => 0)), (u 36, .inr (3, [.ref (u 37), .int 0])), (u 37, .inl (cA 1, 24, .inl fun _ => 0))]
set_option maxHeartbeats 8000000 in
set_option maxRecDepth 100000 in
theorem k_X0_init {l : Launch} : kCt l D cA yX0_init cX0_init 2 3 52 37 354 0 [.null, .int 0, .int 0] (pat_X0 cA) := by
  intro h0 sz
  refine Met.ofW (cc := cX0_init) (maxL := 2) (ret := none) (by decide) rfl ?_
  intro p e s m args below meth c s₁ B hml hv
  obtain ⟨rfl, hsz, hP, hK, hD0⟩ := hv
  have hx := B.exec
  have hb := B.bytes
  have hr := B.returns
  have hts := atoms_spec (ws := zTs yX0_init cX0_init 2 none) B.pre
  have hown : s.vm.findClass RX0 = some m.cls := findClass_of_methodNamed B.named
  have hin : meth.name = "<init>" := (name_of_methodNamed B.named B.method).1
  subst hsz
  have hD := hD0.self (sz := s.heap.size)
  generalize hAe : va_A [(h0, .inr (0, [.null, .int 0, .int 0]))] s.heap.size = A at hD ⊢
  have hA : ∀ q : Nat, s.heap.size ≤ q → A q := fun q h => by rw [← hAe]; exact Or.inr h
  have hS : va_S A s.heap s.heap [] := va_S.rf
  have hl := lv_entry ([.ref h0]) (n := 2) (Nat.le_of_ble_eq_true rfl)
  rw [lg_entry_eq]
  generalize (lg_sl ([.ref h0]) ++ List.replicate (2 - (lg_sl ([.ref h0])).length) Slot.unset).toArray = ls at hl ⊢
  have hl : lv_has ls 2 [(0, .ref h0)] := hl
  refine lv_aload_n hx hb dX0_init_0 rfl (lv_at hl 0 rfl) ?_
  refine W.objInit hx hb hown (zT0 hts (tw1 (i := 81) rfl) rfl) (zT0 hts (tw1 (i := 19) rfl) rfl) (zT0 hts (tw1 (i := 20) rfl) rfl) rfl (by rw [hml]; exact hl.1) rfl dX0_init_1 (Nat.le_of_ble_eq_true rfl) (Nat.le_of_ble_eq_true rfl) ?_
  refine W.eq (g2 := F0 m 4 ls []) rfl ?_
  refine lv_aload_n hx hb dX0_init_4 rfl (lv_at hl 0 rfl) ?_
  refine lv_bipush (v := 6) hx hb dX0_init_5 (by decide) ?_
  refine va_newq (N' := 6) (C := "SleepSteps$State") hx hb hown (zT0 hts (tw1 (i := 82) rfl) rfl) (va_AO.of (zT0 hts (tw1 (i := 83) rfl) rfl)) hK.1 hP hD hS hA (by decide) (by decide) (by decide) (Nat.le_of_ble_eq_true rfl) (Nat.le_of_ble_eq_true rfl) dX0_init_7 (fun q1 x1 H hK1 hP hD hS => ?_)
  have e1 := k_obj hK1
  subst e1
  refine W.widen (k := 1) (n := 6) (Nat.le_of_ble_eq_true rfl) (Nat.le_of_ble_eq_true rfl) ?_
  refine va_putF (D := D) (ci := 0) (v := .ref q1) (ty := tyX0 0) (C := RX0) (T := TX0) (N := 3) hx hb (fun w hw => hts w (zTs_W0 _ hw)) zw_X0 tyX0 tyX0_ok nmX0 hown hK.1 hP hD hS 0 rfl rfl 0 (by decide) (zT0 hts (tw1 (i := 85) rfl) rfl) (fun _ h9 => h9) rfl hin rfl (by decide +kernel) rfl rfl (Nat.le_of_ble_eq_true rfl) dX0_init_10 (fun H locs hP hD hS => ?_)
  refine lv_iconst (v := 0) hx hb dX0_init_13 (by decide) ?_
  refine lv_istore_n (lv' := [(1, .int 0), (0, .ref h0)]) hx hb dX0_init_14 rfl hl (by decide) rfl (fun ls hl => ?_)
  refine lv_iload_n hx hb dX0_init_15 rfl (lv_at hl 0 rfl) ?_
  refine lv_bipush (v := 6) hx hb dX0_init_16 (by decide) ?_
  refine lv_icmp_ge (tgt := 40) hx hb dX0_init_18 (by decide) (fun hno => absurd hno (by decide)) (fun _ => ?_)
  refine lv_aload_n hx hb dX0_init_21 rfl (lv_at hl 1 rfl) ?_
  refine va_get (D := D) (C := RX0) (T := TX0) (N := 3) (ci := 0) (v := .ref q1) hx hb (fun w hw => hts w (zTs_W0 _ hw)) zw_X0 hown hK.1 hP 0 rfl rfl 0 (by decide) (zT0 hts (tw1 (i := 85) rfl) rfl) (fun _ h9 => h9) rfl dX0_init_22 ?_
  refine lv_iload_n hx hb dX0_init_25 rfl (lv_at hl 0 rfl) ?_
  refine k_niN (ci := 6) ⟨hx, hb, hml, hown, hts⟩ (fun w hw => zTs_W0 _ (zw_X6 w hw)) tyX6 tyX6_ok (zT0 hts (tw1 (i := 82) rfl) rfl) (zT0 hts (tw1 (i := 36) rfl) rfl) (zT0 hts (tw1 (i := 3) rfl) rfl) hK hP hD hS hA rfl (k_dfl6) (k_X6_init (D := D) (cA := cA)) ⟨va_cnB 0 hts (zGood zTs_W0 (tw1 (i := 39) rfl)) rfl rfl rfl (hK.2 _ (tw1 (i := 84) rfl) rfl) (zT0 hts (tw1 (i := 3) rfl) rfl) ⟨by decide +kernel, by decide +kernel, by decide +kernel⟩ ⟨Nat.le_of_ble_eq_true rfl, Nat.le_of_ble_eq_true rfl⟩, rfl, (zT0 hts (tw1 (i := 38) rfl) rfl)⟩ hl.1 (Nat.le_of_ble_eq_true rfl) (Nat.le_of_ble_eq_true rfl) (Nat.le_of_ble_eq_true rfl) dX0_init_26 dX0_init_29 dX0_init_30 (fun u1 H locs hP hD hS => ?_)
  refine W.widen (k := 7) (n := 64) (Nat.le_of_ble_eq_true rfl) (Nat.le_of_ble_eq_true rfl) ?_
  refine va_astq hx hb hK.1 hP hD hS 1 3 2 6 rfl rfl rfl rfl (by decide) dX0_init_33 (fun H locs hP hD hS => ?_)
  refine lv_iinc (v := 1) (lv' := [(1, .int 1), (0, .ref h0)]) hx hb dX0_init_34 hl (k := 0) rfl (by decide) (by decide) rfl (fun ls hl => ?_)
  refine lv_goto (tgt := 15) hx hb dX0_init_37 (by decide) ?_
  refine lv_iload_n hx hb dX0_init_15 rfl (lv_at hl 0 rfl) ?_
  refine lv_bipush (v := 6) hx hb dX0_init_16 (by decide) ?_
  refine lv_icmp_ge (tgt := 40) hx hb dX0_init_18 (by decide) (fun hno => absurd hno (by decide)) (fun _ => ?_)
  refine lv_aload_n hx hb dX0_init_21 rfl (lv_at hl 1 rfl) ?_
  refine va_get (D := D) (C := RX0) (T := TX0) (N := 3) (ci := 0) (v := .ref q1) hx hb (fun w hw => hts w (zTs_W0 _ hw)) zw_X0 hown hK.1 hP 0 rfl rfl 0 (by decide) (zT0 hts (tw1 (i := 85) rfl) rfl) (fun _ h9 => h9) rfl dX0_init_22 ?_
  refine lv_iload_n hx hb dX0_init_25 rfl (lv_at hl 0 rfl) ?_
  refine k_niN (ci := 6) ⟨hx, hb, hml, hown, hts⟩ (fun w hw => zTs_W0 _ (zw_X6 w hw)) tyX6 tyX6_ok (zT0 hts (tw1 (i := 82) rfl) rfl) (zT0 hts (tw1 (i := 36) rfl) rfl) (zT0 hts (tw1 (i := 3) rfl) rfl) hK hP hD hS hA rfl (k_dfl6) (k_X6_init (D := D) (cA := cA)) ⟨va_cnB 0 hts (zGood zTs_W0 (tw1 (i := 39) rfl)) rfl rfl rfl (hK.2 _ (tw1 (i := 84) rfl) rfl) (zT0 hts (tw1 (i := 3) rfl) rfl) ⟨by decide +kernel, by decide +kernel, by decide +kernel⟩ ⟨Nat.le_of_ble_eq_true rfl, Nat.le_of_ble_eq_true rfl⟩, rfl, (zT0 hts (tw1 (i := 38) rfl) rfl)⟩ hl.1 (Nat.le_of_ble_eq_true rfl) (Nat.le_of_ble_eq_true rfl) (Nat.le_of_ble_eq_true rfl) dX0_init_26 dX0_init_29 dX0_init_30 (fun u2 H locs hP hD hS => ?_)
  refine W.widen (k := 13) (n := 122) (Nat.le_of_ble_eq_true rfl) (Nat.le_of_ble_eq_true rfl) ?_
  refine va_astq hx hb hK.1 hP hD hS 1 3 8 6 rfl rfl rfl rfl (by decide) dX0_init_33 (fun H locs hP hD hS => ?_)
  refine lv_iinc (v := 2) (lv' := [(1, .int 2), (0, .ref h0)]) hx hb dX0_init_34 hl (k := 0) rfl (by decide) (by decide) rfl (fun ls hl => ?_)
  refine lv_goto (tgt := 15) hx hb dX0_init_37 (by decide) ?_
  refine lv_iload_n hx hb dX0_init_15 rfl (lv_at hl 0 rfl) ?_
  refine lv_bipush (v := 6) hx hb dX0_init_16 (by decide) ?_
  refine lv_icmp_ge (tgt := 40) hx hb dX0_init_18 (by decide) (fun hno => absurd hno (by decide)) (fun _ => ?_)
  refine lv_aload_n hx hb dX0_init_21 rfl (lv_at hl 1 rfl) ?_
  refine va_get (D := D) (C := RX0) (T := TX0) (N := 3) (ci := 0) (v := .ref q1) hx hb (fun w hw => hts w (zTs_W0 _ hw)) zw_X0 hown hK.1 hP 0 rfl rfl 0 (by decide) (zT0 hts (tw1 (i := 85) rfl) rfl) (fun _ h9 => h9) rfl dX0_init_22 ?_
  refine lv_iload_n hx hb dX0_init_25 rfl (lv_at hl 0 rfl) ?_
  refine k_niN (ci := 6) ⟨hx, hb, hml, hown, hts⟩ (fun w hw => zTs_W0 _ (zw_X6 w hw)) tyX6 tyX6_ok (zT0 hts (tw1 (i := 82) rfl) rfl) (zT0 hts (tw1 (i := 36) rfl) rfl) (zT0 hts (tw1 (i := 3) rfl) rfl) hK hP hD hS hA rfl (k_dfl6) (k_X6_init (D := D) (cA := cA)) ⟨va_cnB 0 hts (zGood zTs_W0 (tw1 (i := 39) rfl)) rfl rfl rfl (hK.2 _ (tw1 (i := 84) rfl) rfl) (zT0 hts (tw1 (i := 3) rfl) rfl) ⟨by decide +kernel, by decide +kernel, by decide +kernel⟩ ⟨Nat.le_of_ble_eq_true rfl, Nat.le_of_ble_eq_true rfl⟩, rfl, (zT0 hts (tw1 (i := 38) rfl) rfl)⟩ hl.1 (Nat.le_of_ble_eq_true rfl) (Nat.le_of_ble_eq_true rfl) (Nat.le_of_ble_eq_true rfl) dX0_init_26 dX0_init_29 dX0_init_30 (fun u3 H locs hP hD hS => ?_)
  refine W.widen (k := 19) (n := 180) (Nat.le_of_ble_eq_true rfl) (Nat.le_of_ble_eq_true rfl) ?_
  refine va_astq hx hb hK.1 hP hD hS 1 3 14 6 rfl rfl rfl rfl (by decide) dX0_init_33 (fun H locs hP hD hS => ?_)
  refine lv_iinc (v := 3) (lv' := [(1, .int 3), (0, .ref h0)]) hx hb dX0_init_34 hl (k := 0) rfl (by decide) (by decide) rfl (fun ls hl => ?_)
  refine lv_goto (tgt := 15) hx hb dX0_init_37 (by decide) ?_
  refine lv_iload_n hx hb dX0_init_15 rfl (lv_at hl 0 rfl) ?_
  refine lv_bipush (v := 6) hx hb dX0_init_16 (by decide) ?_
  refine lv_icmp_ge (tgt := 40) hx hb dX0_init_18 (by decide) (fun hno => absurd hno (by decide)) (fun _ => ?_)
  refine lv_aload_n hx hb dX0_init_21 rfl (lv_at hl 1 rfl) ?_
  refine va_get (D := D) (C := RX0) (T := TX0) (N := 3) (ci := 0) (v := .ref q1) hx hb (fun w hw => hts w (zTs_W0 _ hw)) zw_X0 hown hK.1 hP 0 rfl rfl 0 (by decide) (zT0 hts (tw1 (i := 85) rfl) rfl) (fun _ h9 => h9) rfl dX0_init_22 ?_
  refine lv_iload_n hx hb dX0_init_25 rfl (lv_at hl 0 rfl) ?_
  refine k_niN (ci := 6) ⟨hx, hb, hml, hown, hts⟩ (fun w hw => zTs_W0 _ (zw_X6 w hw)) tyX6 tyX6_ok (zT0 hts (tw1 (i := 82) rfl) rfl) (zT0 hts (tw1 (i := 36) rfl) rfl) (zT0 hts (tw1 (i := 3) rfl) rfl) hK hP hD hS hA rfl (k_dfl6) (k_X6_init (D := D) (cA := cA)) ⟨va_cnB 0 hts (zGood zTs_W0 (tw1 (i := 39) rfl)) rfl rfl rfl (hK.2 _ (tw1 (i := 84) rfl) rfl) (zT0 hts (tw1 (i := 3) rfl) rfl) ⟨by decide +kernel, by decide +kernel, by decide +kernel⟩ ⟨Nat.le_of_ble_eq_true rfl, Nat.le_of_ble_eq_true rfl⟩, rfl, (zT0 hts (tw1 (i := 38) rfl) rfl)⟩ hl.1 (Nat.le_of_ble_eq_true rfl) (Nat.le_of_ble_eq_true rfl) (Nat.le_of_ble_eq_true rfl) dX0_init_26 dX0_init_29 dX0_init_30 (fun u4 H locs hP hD hS => ?_)
  refine W.widen (k := 25) (n := 238) (Nat.le_of_ble_eq_true rfl) (Nat.le_of_ble_eq_true rfl) ?_
  refine va_astq hx hb hK.1 hP hD hS 1 3 20 6 rfl rfl rfl rfl (by decide) dX0_init_33 (fun H locs hP hD hS => ?_)
  refine lv_iinc (v := 4) (lv' := [(1, .int 4), (0, .ref h0)]) hx hb dX0_init_34 hl (k := 0) rfl (by decide) (by decide) rfl (fun ls hl => ?_)
  refine lv_goto (tgt := 15) hx hb dX0_init_37 (by decide) ?_
  refine lv_iload_n hx hb dX0_init_15 rfl (lv_at hl 0 rfl) ?_
  refine lv_bipush (v := 6) hx hb dX0_init_16 (by decide) ?_
  refine lv_icmp_ge (tgt := 40) hx hb dX0_init_18 (by decide) (fun hno => absurd hno (by decide)) (fun _ => ?_)
  refine lv_aload_n hx hb dX0_init_21 rfl (lv_at hl 1 rfl) ?_
  refine va_get (D := D) (C := RX0) (T := TX0) (N := 3) (ci := 0) (v := .ref q1) hx hb (fun w hw => hts w (zTs_W0 _ hw)) zw_X0 hown hK.1 hP 0 rfl rfl 0 (by decide) (zT0 hts (tw1 (i := 85) rfl) rfl) (fun _ h9 => h9) rfl dX0_init_22 ?_
  refine lv_iload_n hx hb dX0_init_25 rfl (lv_at hl 0 rfl) ?_
  refine k_niN (ci := 6) ⟨hx, hb, hml, hown, hts⟩ (fun w hw => zTs_W0 _ (zw_X6 w hw)) tyX6 tyX6_ok (zT0 hts (tw1 (i := 82) rfl) rfl) (zT0 hts (tw1 (i := 36) rfl) rfl) (zT0 hts (tw1 (i := 3) rfl) rfl) hK hP hD hS hA rfl (k_dfl6) (k_X6_init (D := D) (cA := cA)) ⟨va_cnB 0 hts (zGood zTs_W0 (tw1 (i := 39) rfl)) rfl rfl rfl (hK.2 _ (tw1 (i := 84) rfl) rfl) (zT0 hts (tw1 (i := 3) rfl) rfl) ⟨by decide +kernel, by decide +kernel, by decide +kernel⟩ ⟨Nat.le_of_ble_eq_true rfl, Nat.le_of_ble_eq_true rfl⟩, rfl, (zT0 hts (tw1 (i := 38) rfl) rfl)⟩ hl.1 (Nat.le_of_ble_eq_true rfl) (Nat.le_of_ble_eq_true rfl) (Nat.le_of_ble_eq_true rfl) dX0_init_26 dX0_init_29 dX0_init_30 (fun u5 H locs hP hD hS => ?_)
  refine W.widen (k := 31) (n := 296) (Nat.le_of_ble_eq_true rfl) (Nat.le_of_ble_eq_true rfl) ?_
  refine va_astq hx hb hK.1 hP hD hS 1 3 26 6 rfl rfl rfl rfl (by decide) dX0_init_33 (fun H locs hP hD hS => ?_)
  refine lv_iinc (v := 5) (lv' := [(1, .int 5), (0, .ref h0)]) hx hb dX0_init_34 hl (k := 0) rfl (by decide) (by decide) rfl (fun ls hl => ?_)
  refine lv_goto (tgt := 15) hx hb dX0_init_37 (by decide) ?_
  refine lv_iload_n hx hb dX0_init_15 rfl (lv_at hl 0 rfl) ?_
  refine lv_bipush (v := 6) hx hb dX0_init_16 (by decide) ?_
  refine lv_icmp_ge (tgt := 40) hx hb dX0_init_18 (by decide) (fun hno => absurd hno (by decide)) (fun _ => ?_)
  refine lv_aload_n hx hb dX0_init_21 rfl (lv_at hl 1 rfl) ?_
  refine va_get (D := D) (C := RX0) (T := TX0) (N := 3) (ci := 0) (v := .ref q1) hx hb (fun w hw => hts w (zTs_W0 _ hw)) zw_X0 hown hK.1 hP 0 rfl rfl 0 (by decide) (zT0 hts (tw1 (i := 85) rfl) rfl) (fun _ h9 => h9) rfl dX0_init_22 ?_
  refine lv_iload_n hx hb dX0_init_25 rfl (lv_at hl 0 rfl) ?_
  refine k_niN (ci := 6) ⟨hx, hb, hml, hown, hts⟩ (fun w hw => zTs_W0 _ (zw_X6 w hw)) tyX6 tyX6_ok (zT0 hts (tw1 (i := 82) rfl) rfl) (zT0 hts (tw1 (i := 36) rfl) rfl) (zT0 hts (tw1 (i := 3) rfl) rfl) hK hP hD hS hA rfl (k_dfl6) (k_X6_init (D := D) (cA := cA)) ⟨va_cnB 0 hts (zGood zTs_W0 (tw1 (i := 39) rfl)) rfl rfl rfl (hK.2 _ (tw1 (i := 84) rfl) rfl) (zT0 hts (tw1 (i := 3) rfl) rfl) ⟨by decide +kernel, by decide +kernel, by decide +kernel⟩ ⟨Nat.le_of_ble_eq_true rfl, Nat.le_of_ble_eq_true rfl⟩, rfl, (zT0 hts (tw1 (i := 38) rfl) rfl)⟩ hl.1 (Nat.le_of_ble_eq_true rfl) (Nat.le_of_ble_eq_true rfl) (Nat.le_of_ble_eq_true rfl) dX0_init_26 dX0_init_29 dX0_init_30 (fun u6 H locs hP hD hS => ?_)
  refine W.widen (k := 37) (n := 354) (Nat.le_of_ble_eq_true rfl) (Nat.le_of_ble_eq_true rfl) ?_
  refine va_astq hx hb hK.1 hP hD hS 1 3 32 6 rfl rfl rfl rfl (by decide) dX0_init_33 (fun H locs hP hD hS => ?_)
  refine lv_iinc (v := 6) (lv' := [(1, .int 6), (0, .ref h0)]) hx hb dX0_init_34 hl (k := 0) rfl (by decide) (by decide) rfl (fun ls hl => ?_)
  refine lv_goto (tgt := 15) hx hb dX0_init_37 (by decide) ?_
  refine lv_iload_n hx hb dX0_init_15 rfl (lv_at hl 0 rfl) ?_
  refine lv_bipush (v := 6) hx hb dX0_init_16 (by decide) ?_
  refine lv_icmp_ge (tgt := 40) hx hb dX0_init_18 (by decide) (fun _ => ?_) (fun hno => absurd hno (by decide))
  let u : Nat → Nat := fun k => [h0, q1, (u1 0), (u1 1), (u1 2), (u1 3), (u1 4), (u1 5), (u2 0), (u2 1), (u2 2), (u2 3), (u2 4), (u2 5), (u3 0), (u3 1), (u3 2), (u3 3), (u3 4), (u3 5), (u4 0), (u4 1), (u4 2), (u4 3), (u4 4), (u4 5), (u5 0), (u5 1), (u5 2), (u5 3), (u5 4), (u5 5), (u6 0), (u6 1), (u6 2), (u6 3), (u6 4), (u6 5)].getD k 0
  exact W.vret hx hb hr (fun t ht hW => ⟨⟨u, rfl, rfl, by rw [ht]; exact hP, hK.moved hW, hD⟩, hS.F ht⟩) hS.2.2 dX0_init_40

def pat_X4 (cA : Nat → ClassId) (u : Nat → Nat) : va_W := [(u 0, .inr (4, [.ref (u 1), .ref (u 2), .ref (u 3), .int 0, .int 0, .ref (u 4)])), (u 1, .inl (cA 1, 4, .inl fun _ => 0)), (u 2, .inl (cA 1, 96, .inl fun _ => 0)), (u 3, .inl (cA 1, 24, .inl fun _ => 0)), (u 4, .inl (cA 3, 4096, .inr (.inl fun _ => 0)))]
set_option maxHeartbeats 8000000 in
set_option maxRecDepth 100000 in
theorem k_X4_init {l : Launch} : kCt l D cA yX4_init cX4_init 1 1 12 4 4220 4 [.null, .null, .null, .int 0, .int 0, .null] (pat_X4 cA) := by
  intro h0 sz
  refine Met.ofW (cc := cX4_init) (maxL := 1) (ret := none) (by decide) rfl ?_
  intro p e s m args below meth c s₁ B hml hv
  obtain ⟨rfl, hsz, hP, hK, hD0⟩ := hv
  have hx := B.exec
  have hb := B.bytes
  have hr := B.returns
  have hts := atoms_spec (ws := zTs yX4_init cX4_init 1 none) B.pre
  have hown : s.vm.findClass RX4 = some m.cls := findClass_of_methodNamed B.named
  have hin : meth.name = "<init>" := (name_of_methodNamed B.named B.method).1
  subst hsz
  have hD := hD0.self (sz := s.heap.size)
  generalize hAe : va_A [(h0, .inr (4, [.null, .null, .null, .int 0, .int 0, .null]))] s.heap.size = A at hD ⊢
  have hA : ∀ q : Nat, s.heap.size ≤ q → A q := fun q h => by rw [← hAe]; exact Or.inr h
  have hS : va_S A s.heap s.heap [] := va_S.rf
  have hl := lv_entry ([.ref h0]) (n := 1) (Nat.le_of_ble_eq_true rfl)
  rw [lg_entry_eq]
  generalize (lg_sl ([.ref h0]) ++ List.replicate (1 - (lg_sl ([.ref h0])).length) Slot.unset).toArray = ls at hl ⊢
  have hl : lv_has ls 1 [(0, .ref h0)] := hl
  refine lv_aload_n hx hb dX4_init_0 rfl (lv_at hl 0 rfl) ?_
  refine W.objInit hx hb hown (zT0 hts (tw1 (i := 152) rfl) rfl) (zT0 hts (tw1 (i := 19) rfl) rfl) (zT0 hts (tw1 (i := 20) rfl) rfl) rfl (by rw [hml]; exact hl.1) rfl dX4_init_1 (Nat.le_of_ble_eq_true rfl) (Nat.le_of_ble_eq_true rfl) ?_
  refine W.eq (g2 := F0 m 4 ls []) rfl ?_
  refine lv_aload_n hx hb dX4_init_4 rfl (lv_at hl 0 rfl) ?_
  refine lv_iconst (v := 4) hx hb dX4_init_5 (by decide) ?_
  refine va_newa (atype := .int) (ty := .int) (N' := 4) (a0 := (4, .inl fun _ => 0)) hx hb (zT0 hts (tw1 (i := 34) rfl) rfl) rfl hK.1 hP hD hS hA (fun _ => rfl) (by decide) (by decide) (by decide) (Nat.le_of_ble_eq_true rfl) (Nat.le_of_ble_eq_true rfl) dX4_init_6 (fun q1 x1 H hK1 hP hD hS => ?_)
  have e1 := k_int hK1
  subst e1
  refine W.widen (k := 1) (n := 4) (Nat.le_of_ble_eq_true rfl) (Nat.le_of_ble_eq_true rfl) ?_
  refine va_putF (D := D) (ci := 4) (v := .ref q1) (ty := tyX4 0) (C := RX4) (T := TX4) (N := 6) hx hb (fun w hw => hts w (zTs_W0 _ hw)) zw_X4 tyX4 tyX4_ok nmX4 hown hK.1 hP hD hS 0 rfl rfl 0 (by decide) (zT0 hts (tw1 (i := 153) rfl) rfl) (fun _ h9 => h9) rfl hin rfl (by decide +kernel) rfl rfl (Nat.le_of_ble_eq_true rfl) dX4_init_8 (fun H locs hP hD hS => ?_)
  refine lv_aload_n hx hb dX4_init_11 rfl (lv_at hl 0 rfl) ?_
  refine lv_bipush (v := 96) hx hb dX4_init_12 (by decide) ?_
  refine va_newa (atype := .int) (ty := .int) (N' := 96) (a0 := (96, .inl fun _ => 0)) hx hb (zT0 hts (tw1 (i := 34) rfl) rfl) rfl hK.1 hP hD hS hA (fun _ => rfl) (by decide) (by decide) (by decide) (Nat.le_of_ble_eq_true rfl) (Nat.le_of_ble_eq_true rfl) dX4_init_14 (fun q2 x2 H hK1 hP hD hS => ?_)
  have e1 := k_int hK1
  subst e1
  refine W.widen (k := 2) (n := 100) (Nat.le_of_ble_eq_true rfl) (Nat.le_of_ble_eq_true rfl) ?_
  refine va_putF (D := D) (ci := 4) (v := .ref q2) (ty := tyX4 1) (C := RX4) (T := TX4) (N := 6) hx hb (fun w hw => hts w (zTs_W0 _ hw)) zw_X4 tyX4 tyX4_ok nmX4 hown hK.1 hP hD hS 0 rfl rfl 1 (by decide) (zT0 hts (tw1 (i := 154) rfl) rfl) (fun _ h9 => h9) rfl hin rfl (by decide +kernel) rfl rfl (Nat.le_of_ble_eq_true rfl) dX4_init_16 (fun H locs hP hD hS => ?_)
  refine lv_aload_n hx hb dX4_init_19 rfl (lv_at hl 0 rfl) ?_
  refine lv_bipush (v := 24) hx hb dX4_init_20 (by decide) ?_
  refine va_newa (atype := .int) (ty := .int) (N' := 24) (a0 := (24, .inl fun _ => 0)) hx hb (zT0 hts (tw1 (i := 34) rfl) rfl) rfl hK.1 hP hD hS hA (fun _ => rfl) (by decide) (by decide) (by decide) (Nat.le_of_ble_eq_true rfl) (Nat.le_of_ble_eq_true rfl) dX4_init_22 (fun q3 x3 H hK1 hP hD hS => ?_)
  have e1 := k_int hK1
  subst e1
  refine W.widen (k := 3) (n := 124) (Nat.le_of_ble_eq_true rfl) (Nat.le_of_ble_eq_true rfl) ?_
  refine va_putF (D := D) (ci := 4) (v := .ref q3) (ty := tyX4 2) (C := RX4) (T := TX4) (N := 6) hx hb (fun w hw => hts w (zTs_W0 _ hw)) zw_X4 tyX4 tyX4_ok nmX4 hown hK.1 hP hD hS 0 rfl rfl 2 (by decide) (zT0 hts (tw1 (i := 155) rfl) rfl) (fun _ h9 => h9) rfl hin rfl (by decide +kernel) rfl rfl (Nat.le_of_ble_eq_true rfl) dX4_init_24 (fun H locs hP hD hS => ?_)
  refine lv_aload_n hx hb dX4_init_27 rfl (lv_at hl 0 rfl) ?_
  refine lv_sipush (v := 4096) hx hb dX4_init_28 (by decide) ?_
  refine va_newa (atype := .long) (ty := .long) (N' := 4096) (a0 := (4096, .inr (.inl fun _ => 0))) hx hb (zT0 hts (tw1 (i := 146) rfl) rfl) rfl hK.1 hP hD hS hA (fun _ => rfl) (by decide) (by decide) (by decide) (Nat.le_of_ble_eq_true rfl) (Nat.le_of_ble_eq_true rfl) dX4_init_31 (fun q4 x4 H hK1 hP hD hS => ?_)
  have e1 := k_long hK1
  subst e1
  refine W.widen (k := 4) (n := 4220) (Nat.le_of_ble_eq_true rfl) (Nat.le_of_ble_eq_true rfl) ?_
  refine va_putF (D := D) (ci := 4) (v := .ref q4) (ty := tyX4 5) (C := RX4) (T := TX4) (N := 6) hx hb (fun w hw => hts w (zTs_W0 _ hw)) zw_X4 tyX4 tyX4_ok nmX4 hown hK.1 hP hD hS 0 rfl rfl 5 (by decide) (zT0 hts (tw1 (i := 158) rfl) rfl) (fun _ h9 => h9) rfl hin rfl (by decide +kernel) rfl rfl (Nat.le_of_ble_eq_true rfl) dX4_init_33 (fun H locs hP hD hS => ?_)
  let u : Nat → Nat := fun k => [h0, q1, q2, q3, q4].getD k 0
  exact W.vret hx hb hr (fun t ht hW => ⟨⟨u, rfl, rfl, by rw [ht]; exact hP, hK.moved hW, hD⟩, hS.F ht⟩) hS.2.2 dX4_init_36

def pat_X8 (cA : Nat → ClassId) (u : Nat → Nat) : va_W := [(u 0, .inr (8, [.ref (u 1), .ref (u 2), .int 0, .ref (u 3), .int 0, .ref (u 4), .ref (u 5), .int 0, .ref (u 6), .ref (u 7), .ref (u 8), .ref (u 9), .long 0, .long 0, .int 0, .ref (u 10), .ref (u 11), .ref (u 12), .int 0, .ref (u 13), .ref (u 14), .ref (u 15)])), (u 1, .inl (cA 1, 53, .inl fun _ => 0)), (u 2, .inl (cA 1, 318, .inl fun _ => 0)), (u 3, .inl (cA 1, 106, .inl fun _ => 0)), (u 4, .inl (cA 1, 53, .inl fun _ => 0)), (u 5, .inl (cA 1, 40, .inl fun _ => 0)), (u 6, .inl (cA 1, 28, .inl fun _ => 0)), (u 7, .inl (cA 3, 2401, .inr (.inl fun _ => 0))), (u 8, .inl (cA 3, 5488, .inr (.inl fun _ => 0))), (u 9, .inl (cA 3, 5488, .inr (.inl fun _ => 0))), (u 10, .inl (cA 2, 2401, .inl fun _ => 0)), (u 11, .inl (cA 1, 24, .inl fun _ => 0)), (u 12, .inl (cA 1, 24, .inl fun _ => 0)), (u 13, .inl (cA 1, 24, .inl fun _ => 0)), (u 14, .inl (cA 2, 24, .inl fun _ => 0)), (u 15, .inl (cA 1, 24, .inl fun _ => 0))]
set_option maxHeartbeats 8000000 in
set_option maxRecDepth 100000 in
theorem k_X8_init {l : Launch} : kCt l D cA yX8_init cX8_init 1 1 12 15 16496 8 [.null, .null, .int 0, .null, .int 0, .null, .null, .int 0, .null, .null, .null, .null, .long 0, .long 0, .int 0, .null, .null, .null, .int 0, .null, .null, .null] (pat_X8 cA) := by
  intro h0 sz
  refine Met.ofW (cc := cX8_init) (maxL := 1) (ret := none) (by decide) rfl ?_
  intro p e s m args below meth c s₁ B hml hv
  obtain ⟨rfl, hsz, hP, hK, hD0⟩ := hv
  have hx := B.exec
  have hb := B.bytes
  have hr := B.returns
  have hts := atoms_spec (ws := zTs yX8_init cX8_init 1 none) B.pre
  have hown : s.vm.findClass RX8 = some m.cls := findClass_of_methodNamed B.named
  have hin : meth.name = "<init>" := (name_of_methodNamed B.named B.method).1
  subst hsz
  have hD := hD0.self (sz := s.heap.size)
  generalize hAe : va_A [(h0, .inr (8, [.null, .null, .int 0, .null, .int 0, .null, .null, .int 0, .null, .null, .null, .null, .long 0, .long 0, .int 0, .null, .null, .null, .int 0, .null, .null, .null]))] s.heap.size = A at hD ⊢
  have hA : ∀ q : Nat, s.heap.size ≤ q → A q := fun q h => by rw [← hAe]; exact Or.inr h
  have hS : va_S A s.heap s.heap [] := va_S.rf
  have hl := lv_entry ([.ref h0]) (n := 1) (Nat.le_of_ble_eq_true rfl)
  rw [lg_entry_eq]
  generalize (lg_sl ([.ref h0]) ++ List.replicate (1 - (lg_sl ([.ref h0])).length) Slot.unset).toArray = ls at hl ⊢
  have hl : lv_has ls 1 [(0, .ref h0)] := hl
  refine lv_aload_n hx hb dX8_init_0 rfl (lv_at hl 0 rfl) ?_
  refine W.objInit hx hb hown (zT0 hts (tw3 (i := 201) rfl) rfl) (zT0 hts (tw1 (i := 19) rfl) rfl) (zT0 hts (tw1 (i := 20) rfl) rfl) rfl (by rw [hml]; exact hl.1) rfl dX8_init_1 (Nat.le_of_ble_eq_true rfl) (Nat.le_of_ble_eq_true rfl) ?_
  refine W.eq (g2 := F0 m 4 ls []) rfl ?_
  refine lv_aload_n hx hb dX8_init_4 rfl (lv_at hl 0 rfl) ?_
  refine lv_bipush (v := 53) hx hb dX8_init_5 (by decide) ?_
  refine va_newa (atype := .int) (ty := .int) (N' := 53) (a0 := (53, .inl fun _ => 0)) hx hb (zT0 hts (tw1 (i := 34) rfl) rfl) rfl hK.1 hP hD hS hA (fun _ => rfl) (by decide) (by decide) (by decide) (Nat.le_of_ble_eq_true rfl) (Nat.le_of_ble_eq_true rfl) dX8_init_7 (fun q1 x1 H hK1 hP hD hS => ?_)
  have e1 := k_int hK1
  subst e1
  refine W.widen (k := 1) (n := 53) (Nat.le_of_ble_eq_true rfl) (Nat.le_of_ble_eq_true rfl) ?_
  refine va_putF (D := D) (ci := 8) (v := .ref q1) (ty := tyX8 0) (C := RX8) (T := TX8) (N := 22) hx hb (fun w hw => hts w (zTs_W0 _ hw)) zw_X8 tyX8 tyX8_ok nmX8 hown hK.1 hP hD hS 0 rfl rfl 0 (by decide) (zT0 hts (tw3 (i := 202) rfl) rfl) (fun _ h9 => h9) rfl hin rfl (by decide +kernel) rfl rfl (Nat.le_of_ble_eq_true rfl) dX8_init_9 (fun H locs hP hD hS => ?_)
  refine lv_aload_n hx hb dX8_init_12 rfl (lv_at hl 0 rfl) ?_
  refine lv_sipush (v := 318) hx hb dX8_init_13 (by decide) ?_
  refine va_newa (atype := .int) (ty := .int) (N' := 318) (a0 := (318, .inl fun _ => 0)) hx hb (zT0 hts (tw1 (i := 34) rfl) rfl) rfl hK.1 hP hD hS hA (fun _ => rfl) (by decide) (by decide) (by decide) (Nat.le_of_ble_eq_true rfl) (Nat.le_of_ble_eq_true rfl) dX8_init_16 (fun q2 x2 H hK1 hP hD hS => ?_)
  have e1 := k_int hK1
  subst e1
  refine W.widen (k := 2) (n := 371) (Nat.le_of_ble_eq_true rfl) (Nat.le_of_ble_eq_true rfl) ?_
  refine va_putF (D := D) (ci := 8) (v := .ref q2) (ty := tyX8 1) (C := RX8) (T := TX8) (N := 22) hx hb (fun w hw => hts w (zTs_W0 _ hw)) zw_X8 tyX8 tyX8_ok nmX8 hown hK.1 hP hD hS 0 rfl rfl 1 (by decide) (zT0 hts (tw3 (i := 203) rfl) rfl) (fun _ h9 => h9) rfl hin rfl (by decide +kernel) rfl rfl (Nat.le_of_ble_eq_true rfl) dX8_init_18 (fun H locs hP hD hS => ?_)
  refine lv_aload_n hx hb dX8_init_21 rfl (lv_at hl 0 rfl) ?_
  refine lv_bipush (v := 106) hx hb dX8_init_22 (by decide) ?_
  refine va_newa (atype := .int) (ty := .int) (N' := 106) (a0 := (106, .inl fun _ => 0)) hx hb (zT0 hts (tw1 (i := 34) rfl) rfl) rfl hK.1 hP hD hS hA (fun _ => rfl) (by decide) (by decide) (by decide) (Nat.le_of_ble_eq_true rfl) (Nat.le_of_ble_eq_true rfl) dX8_init_24 (fun q3 x3 H hK1 hP hD hS => ?_)
  have e1 := k_int hK1
  subst e1
  refine W.widen (k := 3) (n := 477) (Nat.le_of_ble_eq_true rfl) (Nat.le_of_ble_eq_true rfl) ?_
  refine va_putF (D := D) (ci := 8) (v := .ref q3) (ty := tyX8 3) (C := RX8) (T := TX8) (N := 22) hx hb (fun w hw => hts w (zTs_W0 _ hw)) zw_X8 tyX8 tyX8_ok nmX8 hown hK.1 hP hD hS 0 rfl rfl 3 (by decide) (zT0 hts (tw3 (i := 205) rfl) rfl) (fun _ h9 => h9) rfl hin rfl (by decide +kernel) rfl rfl (Nat.le_of_ble_eq_true rfl) dX8_init_26 (fun H locs hP hD hS => ?_)
  refine lv_aload_n hx hb dX8_init_29 rfl (lv_at hl 0 rfl) ?_
  refine lv_bipush (v := 53) hx hb dX8_init_30 (by decide) ?_
  refine va_newa (atype := .int) (ty := .int) (N' := 53) (a0 := (53, .inl fun _ => 0)) hx hb (zT0 hts (tw1 (i := 34) rfl) rfl) rfl hK.1 hP hD hS hA (fun _ => rfl) (by decide) (by decide) (by decide) (Nat.le_of_ble_eq_true rfl) (Nat.le_of_ble_eq_true rfl) dX8_init_32 (fun q4 x4 H hK1 hP hD hS => ?_)
  have e1 := k_int hK1
  subst e1
  refine W.widen (k := 4) (n := 530) (Nat.le_of_ble_eq_true rfl) (Nat.le_of_ble_eq_true rfl) ?_
  refine va_putF (D := D) (ci := 8) (v := .ref q4) (ty := tyX8 5) (C := RX8) (T := TX8) (N := 22) hx hb (fun w hw => hts w (zTs_W0 _ hw)) zw_X8 tyX8 tyX8_ok nmX8 hown hK.1 hP hD hS 0 rfl rfl 5 (by decide) (zT0 hts (tw3 (i := 207) rfl) rfl) (fun _ h9 => h9) rfl hin rfl (by decide +kernel) rfl rfl (Nat.le_of_ble_eq_true rfl) dX8_init_34 (fun H locs hP hD hS => ?_)
  refine lv_aload_n hx hb dX8_init_37 rfl (lv_at hl 0 rfl) ?_
  refine lv_bipush (v := 40) hx hb dX8_init_38 (by decide) ?_
  refine va_newa (atype := .int) (ty := .int) (N' := 40) (a0 := (40, .inl fun _ => 0)) hx hb (zT0 hts (tw1 (i := 34) rfl) rfl) rfl hK.1 hP hD hS hA (fun _ => rfl) (by decide) (by decide) (by decide) (Nat.le_of_ble_eq_true rfl) (Nat.le_of_ble_eq_true rfl) dX8_init_40 (fun q5 x5 H hK1 hP hD hS => ?_)
  have e1 := k_int hK1
  subst e1
  refine W.widen (k := 5) (n := 570) (Nat.le_of_ble_eq_true rfl) (Nat.le_of_ble_eq_true rfl) ?_
  refine va_putF (D := D) (ci := 8) (v := .ref q5) (ty := tyX8 6) (C := RX8) (T := TX8) (N := 22) hx hb (fun w hw => hts w (zTs_W0 _ hw)) zw_X8 tyX8 tyX8_ok nmX8 hown hK.1 hP hD hS 0 rfl rfl 6 (by decide) (zT0 hts (tw3 (i := 208) rfl) rfl) (fun _ h9 => h9) rfl hin rfl (by decide +kernel) rfl rfl (Nat.le_of_ble_eq_true rfl) dX8_init_42 (fun H locs hP hD hS => ?_)
  refine lv_aload_n hx hb dX8_init_45 rfl (lv_at hl 0 rfl) ?_
  refine lv_bipush (v := 28) hx hb dX8_init_46 (by decide) ?_
  refine va_newa (atype := .int) (ty := .int) (N' := 28) (a0 := (28, .inl fun _ => 0)) hx hb (zT0 hts (tw1 (i := 34) rfl) rfl) rfl hK.1 hP hD hS hA (fun _ => rfl) (by decide) (by decide) (by decide) (Nat.le_of_ble_eq_true rfl) (Nat.le_of_ble_eq_true rfl) dX8_init_48 (fun q6 x6 H hK1 hP hD hS => ?_)
  have e1 := k_int hK1
  subst e1
  refine W.widen (k := 6) (n := 598) (Nat.le_of_ble_eq_true rfl) (Nat.le_of_ble_eq_true rfl) ?_
  refine va_putF (D := D) (ci := 8) (v := .ref q6) (ty := tyX8 8) (C := RX8) (T := TX8) (N := 22) hx hb (fun w hw => hts w (zTs_W0 _ hw)) zw_X8 tyX8 tyX8_ok nmX8 hown hK.1 hP hD hS 0 rfl rfl 8 (by decide) (zT0 hts (tw3 (i := 210) rfl) rfl) (fun _ h9 => h9) rfl hin rfl (by decide +kernel) rfl rfl (Nat.le_of_ble_eq_true rfl) dX8_init_50 (fun H locs hP hD hS => ?_)
  refine lv_aload_n hx hb dX8_init_53 rfl (lv_at hl 0 rfl) ?_
  refine lv_sipush (v := 2401) hx hb dX8_init_54 (by decide) ?_
  refine va_newa (atype := .long) (ty := .long) (N' := 2401) (a0 := (2401, .inr (.inl fun _ => 0))) hx hb (zT0 hts (tw1 (i := 146) rfl) rfl) rfl hK.1 hP hD hS hA (fun _ => rfl) (by decide) (by decide) (by decide) (Nat.le_of_ble_eq_true rfl) (Nat.le_of_ble_eq_true rfl) dX8_init_57 (fun q7 x7 H hK1 hP hD hS => ?_)
  have e1 := k_long hK1
  subst e1
  refine W.widen (k := 7) (n := 2999) (Nat.le_of_ble_eq_true rfl) (Nat.le_of_ble_eq_true rfl) ?_
  refine va_putF (D := D) (ci := 8) (v := .ref q7) (ty := tyX8 9) (C := RX8) (T := TX8) (N := 22) hx hb (fun w hw => hts w (zTs_W0 _ hw)) zw_X8 tyX8 tyX8_ok nmX8 hown hK.1 hP hD hS 0 rfl rfl 9 (by decide) (zT0 hts (tw3 (i := 211) rfl) rfl) (fun _ h9 => h9) rfl hin rfl (by decide +kernel) rfl rfl (Nat.le_of_ble_eq_true rfl) dX8_init_59 (fun H locs hP hD hS => ?_)
  refine lv_aload_n hx hb dX8_init_62 rfl (lv_at hl 0 rfl) ?_
  refine lv_sipush (v := 5488) hx hb dX8_init_63 (by decide) ?_
  refine va_newa (atype := .long) (ty := .long) (N' := 5488) (a0 := (5488, .inr (.inl fun _ => 0))) hx hb (zT0 hts (tw1 (i := 146) rfl) rfl) rfl hK.1 hP hD hS hA (fun _ => rfl) (by decide) (by decide) (by decide) (Nat.le_of_ble_eq_true rfl) (Nat.le_of_ble_eq_true rfl) dX8_init_66 (fun q8 x8 H hK1 hP hD hS => ?_)
  have e1 := k_long hK1
  subst e1
  refine W.widen (k := 8) (n := 8487) (Nat.le_of_ble_eq_true rfl) (Nat.le_of_ble_eq_true rfl) ?_
  refine va_putF (D := D) (ci := 8) (v := .ref q8) (ty := tyX8 10) (C := RX8) (T := TX8) (N := 22) hx hb (fun w hw => hts w (zTs_W0 _ hw)) zw_X8 tyX8 tyX8_ok nmX8 hown hK.1 hP hD hS 0 rfl rfl 10 (by decide) (zT0 hts (tw3 (i := 212) rfl) rfl) (fun _ h9 => h9) rfl hin rfl (by decide +kernel) rfl rfl (Nat.le_of_ble_eq_true rfl) dX8_init_68 (fun H locs hP hD hS => ?_)
  refine lv_aload_n hx hb dX8_init_71 rfl (lv_at hl 0 rfl) ?_
  refine lv_sipush (v := 5488) hx hb dX8_init_72 (by decide) ?_
  refine va_newa (atype := .long) (ty := .long) (N' := 5488) (a0 := (5488, .inr (.inl fun _ => 0))) hx hb (zT0 hts (tw1 (i := 146) rfl) rfl) rfl hK.1 hP hD hS hA (fun _ => rfl) (by decide) (by decide) (by decide) (Nat.le_of_ble_eq_true rfl) (Nat.le_of_ble_eq_true rfl) dX8_init_75 (fun q9 x9 H hK1 hP hD hS => ?_)
  have e1 := k_long hK1
  subst e1
  refine W.widen (k := 9) (n := 13975) (Nat.le_of_ble_eq_true rfl) (Nat.le_of_ble_eq_true rfl) ?_
  refine va_putF (D := D) (ci := 8) (v := .ref q9) (ty := tyX8 11) (C := RX8) (T := TX8) (N := 22) hx hb (fun w hw => hts w (zTs_W0 _ hw)) zw_X8 tyX8 tyX8_ok nmX8 hown hK.1 hP hD hS 0 rfl rfl 11 (by decide) (zT0 hts (tw3 (i := 213) rfl) rfl) (fun _ h9 => h9) rfl hin rfl (by decide +kernel) rfl rfl (Nat.le_of_ble_eq_true rfl) dX8_init_77 (fun H locs hP hD hS => ?_)
  refine lv_aload_n hx hb dX8_init_80 rfl (lv_at hl 0 rfl) ?_
  refine lv_sipush (v := 2401) hx hb dX8_init_81 (by decide) ?_
  refine va_newa (atype := .boolean) (ty := .boolean) (N' := 2401) (a0 := (2401, .inl fun _ => 0)) hx hb (zT0 hts (tw1 (i := 145) rfl) rfl) rfl hK.1 hP hD hS hA (fun _ => rfl) (by decide) (by decide) (by decide) (Nat.le_of_ble_eq_true rfl) (Nat.le_of_ble_eq_true rfl) dX8_init_84 (fun q10 x10 H hK1 hP hD hS => ?_)
  have e1 := k_bool hK1
  subst e1
  refine W.widen (k := 10) (n := 16376) (Nat.le_of_ble_eq_true rfl) (Nat.le_of_ble_eq_true rfl) ?_
  refine va_putF (D := D) (ci := 8) (v := .ref q10) (ty := tyX8 15) (C := RX8) (T := TX8) (N := 22) hx hb (fun w hw => hts w (zTs_W0 _ hw)) zw_X8 tyX8 tyX8_ok nmX8 hown hK.1 hP hD hS 0 rfl rfl 15 (by decide) (zT0 hts (tw3 (i := 217) rfl) rfl) (fun _ h9 => h9) rfl hin rfl (by decide +kernel) rfl rfl (Nat.le_of_ble_eq_true rfl) dX8_init_86 (fun H locs hP hD hS => ?_)
  refine lv_aload_n hx hb dX8_init_89 rfl (lv_at hl 0 rfl) ?_
  refine lv_bipush (v := 24) hx hb dX8_init_90 (by decide) ?_
  refine va_newa (atype := .int) (ty := .int) (N' := 24) (a0 := (24, .inl fun _ => 0)) hx hb (zT0 hts (tw1 (i := 34) rfl) rfl) rfl hK.1 hP hD hS hA (fun _ => rfl) (by decide) (by decide) (by decide) (Nat.le_of_ble_eq_true rfl) (Nat.le_of_ble_eq_true rfl) dX8_init_92 (fun q11 x11 H hK1 hP hD hS => ?_)
  have e1 := k_int hK1
  subst e1
  refine W.widen (k := 11) (n := 16400) (Nat.le_of_ble_eq_true rfl) (Nat.le_of_ble_eq_true rfl) ?_
  refine va_putF (D := D) (ci := 8) (v := .ref q11) (ty := tyX8 16) (C := RX8) (T := TX8) (N := 22) hx hb (fun w hw => hts w (zTs_W0 _ hw)) zw_X8 tyX8 tyX8_ok nmX8 hown hK.1 hP hD hS 0 rfl rfl 16 (by decide) (zT0 hts (tw3 (i := 218) rfl) rfl) (fun _ h9 => h9) rfl hin rfl (by decide +kernel) rfl rfl (Nat.le_of_ble_eq_true rfl) dX8_init_94 (fun H locs hP hD hS => ?_)
  refine lv_aload_n hx hb dX8_init_97 rfl (lv_at hl 0 rfl) ?_
  refine lv_bipush (v := 24) hx hb dX8_init_98 (by decide) ?_
  refine va_newa (atype := .int) (ty := .int) (N' := 24) (a0 := (24, .inl fun _ => 0)) hx hb (zT0 hts (tw1 (i := 34) rfl) rfl) rfl hK.1 hP hD hS hA (fun _ => rfl) (by decide) (by decide) (by decide) (Nat.le_of_ble_eq_true rfl) (Nat.le_of_ble_eq_true rfl) dX8_init_100 (fun q12 x12 H hK1 hP hD hS => ?_)
  have e1 := k_int hK1
  subst e1
  refine W.widen (k := 12) (n := 16424) (Nat.le_of_ble_eq_true rfl) (Nat.le_of_ble_eq_true rfl) ?_
  refine va_putF (D := D) (ci := 8) (v := .ref q12) (ty := tyX8 17) (C := RX8) (T := TX8) (N := 22) hx hb (fun w hw => hts w (zTs_W0 _ hw)) zw_X8 tyX8 tyX8_ok nmX8 hown hK.1 hP hD hS 0 rfl rfl 17 (by decide) (zT0 hts (tw3 (i := 219) rfl) rfl) (fun _ h9 => h9) rfl hin rfl (by decide +kernel) rfl rfl (Nat.le_of_ble_eq_true rfl) dX8_init_102 (fun H locs hP hD hS => ?_)
  refine lv_aload_n hx hb dX8_init_105 rfl (lv_at hl 0 rfl) ?_
  refine lv_bipush (v := 24) hx hb dX8_init_106 (by decide) ?_
  refine va_newa (atype := .int) (ty := .int) (N' := 24) (a0 := (24, .inl fun _ => 0)) hx hb (zT0 hts (tw1 (i := 34) rfl) rfl) rfl hK.1 hP hD hS hA (fun _ => rfl) (by decide) (by decide) (by decide) (Nat.le_of_ble_eq_true rfl) (Nat.le_of_ble_eq_true rfl) dX8_init_108 (fun q13 x13 H hK1 hP hD hS => ?_)
  have e1 := k_int hK1
  subst e1
  refine W.widen (k := 13) (n := 16448) (Nat.le_of_ble_eq_true rfl) (Nat.le_of_ble_eq_true rfl) ?_
  refine va_putF (D := D) (ci := 8) (v := .ref q13) (ty := tyX8 19) (C := RX8) (T := TX8) (N := 22) hx hb (fun w hw => hts w (zTs_W0 _ hw)) zw_X8 tyX8 tyX8_ok nmX8 hown hK.1 hP hD hS 0 rfl rfl 19 (by decide) (zT0 hts (tw3 (i := 221) rfl) rfl) (fun _ h9 => h9) rfl hin rfl (by decide +kernel) rfl rfl (Nat.le_of_ble_eq_true rfl) dX8_init_110 (fun H locs hP hD hS => ?_)
  refine lv_aload_n hx hb dX8_init_113 rfl (lv_at hl 0 rfl) ?_
  refine lv_bipush (v := 24) hx hb dX8_init_114 (by decide) ?_
  refine va_newa (atype := .boolean) (ty := .boolean) (N' := 24) (a0 := (24, .inl fun _ => 0)) hx hb (zT0 hts (tw1 (i := 145) rfl) rfl) rfl hK.1 hP hD hS hA (fun _ => rfl) (by decide) (by decide) (by decide) (Nat.le_of_ble_eq_true rfl) (Nat.le_of_ble_eq_true rfl) dX8_init_116 (fun q14 x14 H hK1 hP hD hS => ?_)
  have e1 := k_bool hK1
  subst e1
  refine W.widen (k := 14) (n := 16472) (Nat.le_of_ble_eq_true rfl) (Nat.le_of_ble_eq_true rfl) ?_
  refine va_putF (D := D) (ci := 8) (v := .ref q14) (ty := tyX8 20) (C := RX8) (T := TX8) (N := 22) hx hb (fun w hw => hts w (zTs_W0 _ hw)) zw_X8 tyX8 tyX8_ok nmX8 hown hK.1 hP hD hS 0 rfl rfl 20 (by decide) (zT0 hts (tw3 (i := 222) rfl) rfl) (fun _ h9 => h9) rfl hin rfl (by decide +kernel) rfl rfl (Nat.le_of_ble_eq_true rfl) dX8_init_118 (fun H locs hP hD hS => ?_)
  refine lv_aload_n hx hb dX8_init_121 rfl (lv_at hl 0 rfl) ?_
  refine lv_bipush (v := 24) hx hb dX8_init_122 (by decide) ?_
  refine va_newa (atype := .int) (ty := .int) (N' := 24) (a0 := (24, .inl fun _ => 0)) hx hb (zT0 hts (tw1 (i := 34) rfl) rfl) rfl hK.1 hP hD hS hA (fun _ => rfl) (by decide) (by decide) (by decide) (Nat.le_of_ble_eq_true rfl) (Nat.le_of_ble_eq_true rfl) dX8_init_124 (fun q15 x15 H hK1 hP hD hS => ?_)
  have e1 := k_int hK1
  subst e1
  refine W.widen (k := 15) (n := 16496) (Nat.le_of_ble_eq_true rfl) (Nat.le_of_ble_eq_true rfl) ?_
  refine va_putF (D := D) (ci := 8) (v := .ref q15) (ty := tyX8 21) (C := RX8) (T := TX8) (N := 22) hx hb (fun w hw => hts w (zTs_W0 _ hw)) zw_X8 tyX8 tyX8_ok nmX8 hown hK.1 hP hD hS 0 rfl rfl 21 (by decide) (zT0 hts (tw3 (i := 223) rfl) rfl) (fun _ h9 => h9) rfl hin rfl (by decide +kernel) rfl rfl (Nat.le_of_ble_eq_true rfl) dX8_init_126 (fun H locs hP hD hS => ?_)
  let u : Nat → Nat := fun k => [h0, q1, q2, q3, q4, q5, q6, q7, q8, q9, q10, q11, q12, q13, q14, q15].getD k 0
  exact W.vret hx hb hr (fun t ht hW => ⟨⟨u, rfl, rfl, by rw [ht]; exact hP, hK.moved hW, hD⟩, hS.F ht⟩) hS.2.2 dX8_init_129

end KG
