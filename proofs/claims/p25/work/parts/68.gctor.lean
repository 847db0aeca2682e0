/-! CONSTRUCTORS, an instruction a row (written by gen_ctor.py). -/
section KG
variable {D : va_G} {cA : Nat → ClassId}
theorem k_obj {s : State} {cl : List vw_C} {x : ClassId} (h : va_K D cl (kTy cA ++ [(x, .object "SleepSteps$State")]) s) : x = cA 4 := by
  have h1 := va_nmO (h.2 3 (cA 4, .object "SleepSteps$State") rfl).2 rfl
  have h2 := va_nmO (h.2 4 (x, .object "SleepSteps$State") rfl).2 rfl
  rw [h1] at h2
  exact (Option.some.inj h2).symm
theorem k_dfl0 : ∀ j, j < 3 → defaultValue (tyX0 j) = vp_V [.null, .int 0, .int 0] j := fun j hj => by
  rcases (show j = 0 ∨ j = 1 ∨ j = 2 by omega) with rfl | rfl | rfl <;> rfl
theorem k_dfl1 : ∀ j, j < 2 → defaultValue (tyX1 j) = vp_V [.null, .int 0] j := fun j hj => by
  rcases (show j = 0 ∨ j = 1 by omega) with rfl | rfl <;> rfl
theorem k_dfl2 : ∀ j, j < 2 → defaultValue (tyX2 j) = vp_V [.null, .null] j := fun j hj => by
  rcases (show j = 0 ∨ j = 1 by omega) with rfl | rfl <;> rfl
theorem k_dfl3 : ∀ j, j < 2 → defaultValue (tyX3 j) = vp_V [.null, .int 0] j := fun j hj => by
  rcases (show j = 0 ∨ j = 1 by omega) with rfl | rfl <;> rfl
theorem k_dfl4 : ∀ j, j < 6 → defaultValue (tyX4 j) = vp_V [.null, .null, .null, .int 0, .int 0, .null] j := fun j hj => by
  rcases (show j = 0 ∨ j = 1 ∨ j = 2 ∨ j = 3 ∨ j = 4 ∨ j = 5 by omega) with rfl | rfl | rfl | rfl | rfl | rfl <;> rfl
theorem k_dfl5 : ∀ j, j < 12 → defaultValue (tyX5 j) = vp_V [.null, .int 0, .null, .null, .null, .int 0, .null, .long 0, .long 0, .int 0, .null, .null] j := fun j hj => by
  rcases (show j = 0 ∨ j = 1 ∨ j = 2 ∨ j = 3 ∨ j = 4 ∨ j = 5 ∨ j = 6 ∨ j = 7 ∨ j = 8 ∨ j = 9 ∨ j = 10 ∨ j = 11 by omega) with rfl | rfl | rfl | rfl | rfl | rfl | rfl | rfl | rfl | rfl | rfl | rfl <;> rfl
theorem k_dfl6 : ∀ j, j < 2 → defaultValue (tyX6 j) = vp_V [.null, .null] j := fun j hj => by
  rcases (show j = 0 ∨ j = 1 by omega) with rfl | rfl <;> rfl
theorem k_dfl7 : ∀ j, j < 11 → defaultValue (tyX7 j) = vp_V [.null, .null, .null, .null, .null, .null, .null, .null, .null, .null, .null] j := fun j hj => by
  rcases (show j = 0 ∨ j = 1 ∨ j = 2 ∨ j = 3 ∨ j = 4 ∨ j = 5 ∨ j = 6 ∨ j = 7 ∨ j = 8 ∨ j = 9 ∨ j = 10 by omega) with rfl | rfl | rfl | rfl | rfl | rfl | rfl | rfl | rfl | rfl | rfl <;> rfl
def pat_X1 (cA : Nat → ClassId) (u : Nat → Nat) : va_W := [(u 0, .inr (1, [.ref (u 1), .int 0])), (u 1, .inl (cA 1, 40, .inl fun _ => 0))]
set_option maxHeartbeats 8000000 in
set_option maxRecDepth 100000 in
theorem k_X1_init {l : Launch} : kCt l D cA yX1_init cX1_init 1 1 12 1 40 1 [.null, .int 0] (pat_X1 cA) := by
  intro h0 sz
  refine Met.ofW (cc := cX1_init) (maxL := 1) (ret := none) (by decide) rfl ?_
  intro p e s m args below meth c s₁ B hml hv
  obtain ⟨rfl, hsz, hP, hK, hD0⟩ := hv
  have hx := B.exec
  have hb := B.bytes
  have hr := B.returns
  have hts := atoms_spec (ws := zTs yX1_init cX1_init 1 none) B.pre
  have hown : s.vm.findClass RX1 = some m.cls := findClass_of_methodNamed B.named
  have hin : meth.name = "<init>" := (name_of_methodNamed B.named B.method).1
  subst hsz
  have hD := hD0.self (sz := s.heap.size)
  generalize hAe : va_A [(h0, .inr (1, [.null, .int 0]))] s.heap.size = A at hD ⊢
  have hA : ∀ q : Nat, s.heap.size ≤ q → A q := fun q h => by rw [← hAe]; exact Or.inr h
  have hS : va_S A s.heap s.heap [] := va_S.rf
  have hl := lv_entry ([.ref h0]) (n := 1) (Nat.le_of_ble_eq_true rfl)
  rw [lg_entry_eq]
  generalize (lg_sl ([.ref h0]) ++ List.replicate (1 - (lg_sl ([.ref h0])).length) Slot.unset).toArray = ls at hl ⊢
  have hl : lv_has ls 1 [(0, .ref h0)] := hl
  refine lv_aload_n hx hb dX1_init_0 rfl (lv_at hl 0 rfl) ?_
  refine W.objInit hx hb hown (zT0 hts (tw1 (i := 25) rfl) rfl) (zT0 hts (tw1 (i := 18) rfl) rfl) (zT0 hts (tw1 (i := 19) rfl) rfl) rfl (by rw [hml]; exact hl.1) rfl dX1_init_1 (Nat.le_of_ble_eq_true rfl) (Nat.le_of_ble_eq_true rfl) ?_
  refine W.eq (g2 := F0 m 4 ls []) rfl ?_
  refine lv_aload_n hx hb dX1_init_4 rfl (lv_at hl 0 rfl) ?_
  refine lv_bipush (v := 40) hx hb dX1_init_5 (by decide) ?_
  refine va_newa (atype := .int) (ty := .int) (N' := 40) (a0 := (40, .inl fun _ => 0)) hx hb (zT0 hts (tw1 (i := 33) rfl) rfl) rfl hK.1 hP hD hS hA (fun _ => rfl) (by decide) (by decide) (by decide) (Nat.le_of_ble_eq_true rfl) (Nat.le_of_ble_eq_true rfl) dX1_init_7 (fun q1 x1 H hK1 hP hD hS => ?_)
  have e1 := k_int hK1
  subst e1
  have hP : va_P D vwCl [(h0, .inr (1, [.null, .int 0])), (q1, .inl (cA 1, 40, .inl fun _ => 0))] H := hP
  have hD : va_D A [(h0, .inr (1, [.null, .int 0])), (q1, .inl (cA 1, 40, .inl fun _ => 0))] := hD
  refine W.widen (k := 1) (n := 40) (Nat.le_of_ble_eq_true rfl) (Nat.le_of_ble_eq_true rfl) ?_
  refine va_putF (D := D) (ci := 1) (v := .ref q1) (ty := tyX1 0) (C := RX1) (T := TX1) (N := 2) hx hb (fun w hw => hts w (zTs_W0 _ hw)) zw_X1 tyX1 tyX1_ok nmX1 hown hK.1 hP hD hS 0 rfl rfl 0 (by decide) (zT0 hts (tw1 (i := 26) rfl) rfl) (fun _ h9 => h9) rfl hin rfl (by decide +kernel) rfl rfl (Nat.le_of_ble_eq_true rfl) dX1_init_9 (fun H locs hP hD hS => ?_)
  have hP : va_P D vwCl [(h0, .inr (1, [.ref q1, .int 0])), (q1, .inl (cA 1, 40, .inl fun _ => 0))] H := hP
  have hD : va_D A [(h0, .inr (1, [.ref q1, .int 0])), (q1, .inl (cA 1, 40, .inl fun _ => 0))] := hD
  let u : Nat → Nat := fun k => [h0, q1].getD k 0
  exact W.vret hx hb hr (fun t ht hW => ⟨⟨u, rfl, rfl, by rw [ht]; exact hP, hK.moved hW, hD⟩, hS.F ht⟩) hS.2.2 dX1_init_12

def pat_X2 (cA : Nat → ClassId) (u : Nat → Nat) : va_W := [(u 0, .inr (2, [.ref (u 1), .ref (u 2)])), (u 1, .inl (cA 1, 24, .inl fun _ => 0)), (u 2, .inl (cA 1, 4, .inl fun _ => 0))]
set_option maxHeartbeats 8000000 in
set_option maxRecDepth 100000 in
theorem k_X2_init {l : Launch} : kCt l D cA yX2_init cX2_init 1 1 12 2 28 2 [.null, .null] (pat_X2 cA) := by
  intro h0 sz
  refine Met.ofW (cc := cX2_init) (maxL := 1) (ret := none) (by decide) rfl ?_
  intro p e s m args below meth c s₁ B hml hv
  obtain ⟨rfl, hsz, hP, hK, hD0⟩ := hv
  have hx := B.exec
  have hb := B.bytes
  have hr := B.returns
  have hts := atoms_spec (ws := zTs yX2_init cX2_init 1 none) B.pre
  have hown : s.vm.findClass RX2 = some m.cls := findClass_of_methodNamed B.named
  have hin : meth.name = "<init>" := (name_of_methodNamed B.named B.method).1
  subst hsz
  have hD := hD0.self (sz := s.heap.size)
  generalize hAe : va_A [(h0, .inr (2, [.null, .null]))] s.heap.size = A at hD ⊢
  have hA : ∀ q : Nat, s.heap.size ≤ q → A q := fun q h => by rw [← hAe]; exact Or.inr h
  have hS : va_S A s.heap s.heap [] := va_S.rf
  have hl := lv_entry ([.ref h0]) (n := 1) (Nat.le_of_ble_eq_true rfl)
  rw [lg_entry_eq]
  generalize (lg_sl ([.ref h0]) ++ List.replicate (1 - (lg_sl ([.ref h0])).length) Slot.unset).toArray = ls at hl ⊢
  have hl : lv_has ls 1 [(0, .ref h0)] := hl
  refine lv_aload_n hx hb dX2_init_0 rfl (lv_at hl 0 rfl) ?_
  refine W.objInit hx hb hown (zT0 hts (tw1 (i := 45) rfl) rfl) (zT0 hts (tw1 (i := 18) rfl) rfl) (zT0 hts (tw1 (i := 19) rfl) rfl) rfl (by rw [hml]; exact hl.1) rfl dX2_init_1 (Nat.le_of_ble_eq_true rfl) (Nat.le_of_ble_eq_true rfl) ?_
  refine W.eq (g2 := F0 m 4 ls []) rfl ?_
  refine lv_aload_n hx hb dX2_init_4 rfl (lv_at hl 0 rfl) ?_
  refine lv_bipush (v := 24) hx hb dX2_init_5 (by decide) ?_
  refine va_newa (atype := .int) (ty := .int) (N' := 24) (a0 := (24, .inl fun _ => 0)) hx hb (zT0 hts (tw1 (i := 33) rfl) rfl) rfl hK.1 hP hD hS hA (fun _ => rfl) (by decide) (by decide) (by decide) (Nat.le_of_ble_eq_true rfl) (Nat.le_of_ble_eq_true rfl) dX2_init_7 (fun q1 x1 H hK1 hP hD hS => ?_)
  have e1 := k_int hK1
  subst e1
  have hP : va_P D vwCl [(h0, .inr (2, [.null, .null])), (q1, .inl (cA 1, 24, .inl fun _ => 0))] H := hP
  have hD : va_D A [(h0, .inr (2, [.null, .null])), (q1, .inl (cA 1, 24, .inl fun _ => 0))] := hD
  refine W.widen (k := 1) (n := 24) (Nat.le_of_ble_eq_true rfl) (Nat.le_of_ble_eq_true rfl) ?_
  refine va_putF (D := D) (ci := 2) (v := .ref q1) (ty := tyX2 0) (C := RX2) (T := TX2) (N := 2) hx hb (fun w hw => hts w (zTs_W0 _ hw)) zw_X2 tyX2 tyX2_ok nmX2 hown hK.1 hP hD hS 0 rfl rfl 0 (by decide) (zT0 hts (tw1 (i := 46) rfl) rfl) (fun _ h9 => h9) rfl hin rfl (by decide +kernel) rfl rfl (Nat.le_of_ble_eq_true rfl) dX2_init_9 (fun H locs hP hD hS => ?_)
  have hP : va_P D vwCl [(h0, .inr (2, [.ref q1, .null])), (q1, .inl (cA 1, 24, .inl fun _ => 0))] H := hP
  have hD : va_D A [(h0, .inr (2, [.ref q1, .null])), (q1, .inl (cA 1, 24, .inl fun _ => 0))] := hD
  refine lv_aload_n hx hb dX2_init_12 rfl (lv_at hl 0 rfl) ?_
  refine lv_iconst (v := 4) hx hb dX2_init_13 (by decide) ?_
  refine va_newa (atype := .int) (ty := .int) (N' := 4) (a0 := (4, .inl fun _ => 0)) hx hb (zT0 hts (tw1 (i := 33) rfl) rfl) rfl hK.1 hP hD hS hA (fun _ => rfl) (by decide) (by decide) (by decide) (Nat.le_of_ble_eq_true rfl) (Nat.le_of_ble_eq_true rfl) dX2_init_14 (fun q2 x2 H hK1 hP hD hS => ?_)
  have e1 := k_int hK1
  subst e1
  have hP : va_P D vwCl [(h0, .inr (2, [.ref q1, .null])), (q1, .inl (cA 1, 24, .inl fun _ => 0)), (q2, .inl (cA 1, 4, .inl fun _ => 0))] H := hP
  have hD : va_D A [(h0, .inr (2, [.ref q1, .null])), (q1, .inl (cA 1, 24, .inl fun _ => 0)), (q2, .inl (cA 1, 4, .inl fun _ => 0))] := hD
  refine W.widen (k := 2) (n := 28) (Nat.le_of_ble_eq_true rfl) (Nat.le_of_ble_eq_true rfl) ?_
  refine va_putF (D := D) (ci := 2) (v := .ref q2) (ty := tyX2 1) (C := RX2) (T := TX2) (N := 2) hx hb (fun w hw => hts w (zTs_W0 _ hw)) zw_X2 tyX2 tyX2_ok nmX2 hown hK.1 hP hD hS 0 rfl rfl 1 (by decide) (zT0 hts (tw1 (i := 47) rfl) rfl) (fun _ h9 => h9) rfl hin rfl (by decide +kernel) rfl rfl (Nat.le_of_ble_eq_true rfl) dX2_init_16 (fun H locs hP hD hS => ?_)
  have hP : va_P D vwCl [(h0, .inr (2, [.ref q1, .ref q2])), (q1, .inl (cA 1, 24, .inl fun _ => 0)), (q2, .inl (cA 1, 4, .inl fun _ => 0))] H := hP
  have hD : va_D A [(h0, .inr (2, [.ref q1, .ref q2])), (q1, .inl (cA 1, 24, .inl fun _ => 0)), (q2, .inl (cA 1, 4, .inl fun _ => 0))] := hD
  let u : Nat → Nat := fun k => [h0, q1, q2].getD k 0
  exact W.vret hx hb hr (fun t ht hW => ⟨⟨u, rfl, rfl, by rw [ht]; exact hP, hK.moved hW, hD⟩, hS.F ht⟩) hS.2.2 dX2_init_19

def pat_X6 (cA : Nat → ClassId) (u : Nat → Nat) : va_W := [(u 0, .inr (6, [.ref (u 1), .ref (u 4)])), (u 1, .inr (2, [.ref (u 2), .ref (u 3)])), (u 2, .inl (cA 1, 24, .inl fun _ => 0)), (u 3, .inl (cA 1, 4, .inl fun _ => 0)), (u 4, .inr (3, [.ref (u 5), .int 0])), (u 5, .inl (cA 1, 24, .inl fun _ => 0))]
set_option maxHeartbeats 8000000 in
set_option maxRecDepth 100000 in
theorem k_X6_init {l : Launch} : kCt l D cA yX6_init cX6_init 1 2 32 5 56 6 [.null, .null] (pat_X6 cA) := by
  intro h0 sz
  refine Met.ofW (cc := cX6_init) (maxL := 1) (ret := none) (by decide) rfl ?_
  intro p e s m args below meth c s₁ B hml hv
  obtain ⟨rfl, hsz, hP, hK, hD0⟩ := hv
  have hx := B.exec
  have hb := B.bytes
  have hr := B.returns
  have hts := atoms_spec (ws := zTs yX6_init cX6_init 1 none) B.pre
  have hown : s.vm.findClass RX6 = some m.cls := findClass_of_methodNamed B.named
  have hin : meth.name = "<init>" := (name_of_methodNamed B.named B.method).1
  subst hsz
  have hD := hD0.self (sz := s.heap.size)
  generalize hAe : va_A [(h0, .inr (6, [.null, .null]))] s.heap.size = A at hD ⊢
  have hA : ∀ q : Nat, s.heap.size ≤ q → A q := fun q h => by rw [← hAe]; exact Or.inr h
  have hS : va_S A s.heap s.heap [] := va_S.rf
  have hl := lv_entry ([.ref h0]) (n := 1) (Nat.le_of_ble_eq_true rfl)
  rw [lg_entry_eq]
  generalize (lg_sl ([.ref h0]) ++ List.replicate (1 - (lg_sl ([.ref h0])).length) Slot.unset).toArray = ls at hl ⊢
  have hl : lv_has ls 1 [(0, .ref h0)] := hl
  refine lv_aload_n hx hb dX6_init_0 rfl (lv_at hl 0 rfl) ?_
  refine W.objInit hx hb hown (zT0 hts (tw1 (i := 39) rfl) rfl) (zT0 hts (tw1 (i := 18) rfl) rfl) (zT0 hts (tw1 (i := 19) rfl) rfl) rfl (by rw [hml]; exact hl.1) rfl dX6_init_1 (Nat.le_of_ble_eq_true rfl) (Nat.le_of_ble_eq_true rfl) ?_
  refine W.eq (g2 := F0 m 4 ls []) rfl ?_
  refine lv_aload_n hx hb dX6_init_4 rfl (lv_at hl 0 rfl) ?_
  refine k_niN (ci := 2) ⟨hx, hb, hml, hown, hts⟩ (fun w hw => zTs_W0 _ (zw_X2 w hw)) tyX2 tyX2_ok (zT0 hts (tw1 (i := 40) rfl) rfl) (zT0 hts (tw1 (i := 41) rfl) rfl) (zT0 hts (tw1 (i := 4) rfl) rfl) hK hP hD hS hA rfl (k_dfl2) (k_X2_init (D := D) (cA := cA)) ⟨va_cnB 0 hts (zGood zTs_W0 (tw1 (i := 44) rfl)) rfl rfl rfl (hK.2.1 _ (tw1 (i := 42) rfl) rfl) (zT0 hts (tw1 (i := 4) rfl) rfl) ⟨by decide +kernel, by decide +kernel, by decide +kernel⟩ ⟨Nat.le_of_ble_eq_true rfl, Nat.le_of_ble_eq_true rfl⟩, rfl, (zT0 hts (tw1 (i := 43) rfl) rfl)⟩ hl.1 (Nat.le_of_ble_eq_true rfl) (Nat.le_of_ble_eq_true rfl) (Nat.le_of_ble_eq_true rfl) dX6_init_5 dX6_init_8 dX6_init_9 (fun u1 H locs hP hD hS => ?_)
  have hP : va_P D vwCl [(h0, .inr (6, [.null, .null])), ((u1 0), .inr (2, [.ref (u1 1), .ref (u1 2)])), ((u1 1), .inl (cA 1, 24, .inl fun _ => 0)), ((u1 2), .inl (cA 1, 4, .inl fun _ => 0))] H := hP
  have hD : va_D A [(h0, .inr (6, [.null, .null])), ((u1 0), .inr (2, [.ref (u1 1), .ref (u1 2)])), ((u1 1), .inl (cA 1, 24, .inl fun _ => 0)), ((u1 2), .inl (cA 1, 4, .inl fun _ => 0))] := hD
  refine W.widen (k := 3) (n := 30) (Nat.le_of_ble_eq_true rfl) (Nat.le_of_ble_eq_true rfl) ?_
  refine va_putF (D := D) (ci := 6) (v := .ref (u1 0)) (ty := tyX6 0) (C := RX6) (T := TX6) (N := 2) hx hb (fun w hw => hts w (zTs_W0 _ hw)) zw_X6 tyX6 tyX6_ok nmX6 hown hK.1 hP hD hS 0 rfl rfl 0 (by decide) (zT0 hts (tw1 (i := 66) rfl) rfl) (fun _ h9 => h9) rfl hin rfl (by decide +kernel) rfl rfl (Nat.le_of_ble_eq_true rfl) dX6_init_12 (fun H locs hP hD hS => ?_)
  have hP : va_P D vwCl [(h0, .inr (6, [.ref (u1 0), .null])), ((u1 0), .inr (2, [.ref (u1 1), .ref (u1 2)])), ((u1 1), .inl (cA 1, 24, .inl fun _ => 0)), ((u1 2), .inl (cA 1, 4, .inl fun _ => 0))] H := hP
  have hD : va_D A [(h0, .inr (6, [.ref (u1 0), .null])), ((u1 0), .inr (2, [.ref (u1 1), .ref (u1 2)])), ((u1 1), .inl (cA 1, 24, .inl fun _ => 0)), ((u1 2), .inl (cA 1, 4, .inl fun _ => 0))] := hD
  refine lv_aload_n hx hb dX6_init_15 rfl (lv_at hl 0 rfl) ?_
  refine k_niN (ci := 3) ⟨hx, hb, hml, hown, hts⟩ (fun w hw => zTs_W0 _ (zw_X3 w hw)) tyX3 tyX3_ok (zT0 hts (tw1 (i := 53) rfl) rfl) (zT0 hts (tw1 (i := 54) rfl) rfl) (zT0 hts (tw1 (i := 5) rfl) rfl) hK hP hD hS hA rfl (k_dfl3) (k_X3_init (D := D) (cA := cA)) ⟨va_cnB 0 hts (zGood zTs_W0 (tw1 (i := 57) rfl)) rfl rfl rfl (hK.2.1 _ (tw1 (i := 55) rfl) rfl) (zT0 hts (tw1 (i := 5) rfl) rfl) ⟨by decide +kernel, by decide +kernel, by decide +kernel⟩ ⟨Nat.le_of_ble_eq_true rfl, Nat.le_of_ble_eq_true rfl⟩, rfl, (zT0 hts (tw1 (i := 56) rfl) rfl)⟩ hl.1 (Nat.le_of_ble_eq_true rfl) (Nat.le_of_ble_eq_true rfl) (Nat.le_of_ble_eq_true rfl) dX6_init_16 dX6_init_19 dX6_init_20 (fun u2 H locs hP hD hS => ?_)
  have hP : va_P D vwCl [(h0, .inr (6, [.ref (u1 0), .null])), ((u1 0), .inr (2, [.ref (u1 1), .ref (u1 2)])), ((u1 1), .inl (cA 1, 24, .inl fun _ => 0)), ((u1 2), .inl (cA 1, 4, .inl fun _ => 0)), ((u2 0), .inr (3, [.ref (u2 1), .int 0])), ((u2 1), .inl (cA 1, 24, .inl fun _ => 0))] H := hP
  have hD : va_D A [(h0, .inr (6, [.ref (u1 0), .null])), ((u1 0), .inr (2, [.ref (u1 1), .ref (u1 2)])), ((u1 1), .inl (cA 1, 24, .inl fun _ => 0)), ((u1 2), .inl (cA 1, 4, .inl fun _ => 0)), ((u2 0), .inr (3, [.ref (u2 1), .int 0])), ((u2 1), .inl (cA 1, 24, .inl fun _ => 0))] := hD
  refine W.widen (k := 5) (n := 56) (Nat.le_of_ble_eq_true rfl) (Nat.le_of_ble_eq_true rfl) ?_
  refine va_putF (D := D) (ci := 6) (v := .ref (u2 0)) (ty := tyX6 1) (C := RX6) (T := TX6) (N := 2) hx hb (fun w hw => hts w (zTs_W0 _ hw)) zw_X6 tyX6 tyX6_ok nmX6 hown hK.1 hP hD hS 0 rfl rfl 1 (by decide) (zT0 hts (tw1 (i := 68) rfl) rfl) (fun _ h9 => h9) rfl hin rfl (by decide +kernel) rfl rfl (Nat.le_of_ble_eq_true rfl) dX6_init_23 (fun H locs hP hD hS => ?_)
  have hP : va_P D vwCl [(h0, .inr (6, [.ref (u1 0), .ref (u2 0)])), ((u1 0), .inr (2, [.ref (u1 1), .ref (u1 2)])), ((u1 1), .inl (cA 1, 24, .inl fun _ => 0)), ((u1 2), .inl (cA 1, 4, .inl fun _ => 0)), ((u2 0), .inr (3, [.ref (u2 1), .int 0])), ((u2 1), .inl (cA 1, 24, .inl fun _ => 0))] H := hP
  have hD : va_D A [(h0, .inr (6, [.ref (u1 0), .ref (u2 0)])), ((u1 0), .inr (2, [.ref (u1 1), .ref (u1 2)])), ((u1 1), .inl (cA 1, 24, .inl fun _ => 0)), ((u1 2), .inl (cA 1, 4, .inl fun _ => 0)), ((u2 0), .inr (3, [.ref (u2 1), .int 0])), ((u2 1), .inl (cA 1, 24, .inl fun _ => 0))] := hD
  let u : Nat → Nat := fun k => [h0, (u1 0), (u1 1), (u1 2), (u2 0), (u2 1)].getD k 0
  exact W.vret hx hb hr (fun t ht hW => ⟨⟨u, rfl, rfl, by rw [ht]; exact hP, hK.moved hW, hD⟩, hS.F ht⟩) hS.2.2 dX6_init_26

end KG
