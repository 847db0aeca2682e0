/-! CONSTRUCTORS, an instruction a row (written by gen_ctor.py). -/
section KG
variable {D : va_G} {cA : Nat → ClassId}
def pat_X4 (cA : Nat → ClassId) (u : Nat → Nat) : va_W := [(u 0, .inr (4, [.ref (u 1), .ref (u 2), .ref (u 3), .int 0, .int 0, .ref (u 4)])), (u 1, .inl (cA 1, 4, .inl fun _ => 0)), (u 2, .inl (cA 1, 96, .inl fun _ => 0)), (u 3, .inl (cA 1, 24, .inl fun _ => 0)), (u 4, .inl (cA 3, 4096, .inr (.inl fun _ => 0)))]
set_option maxHeartbeats 8000000 in
set_option maxRecDepth 100000 in
theorem k_X4_init {l : Launch} : kCt l D cA yX4_init cX4_init 1 1 12 4 4220 4 [.null, .null, .null, .int 0, .int 0, .null] (pat_X4 cA) := by
  intro h0 sz
  refine Met.ofW (cc := cX4_init) (maxL := 1) (ret := none) (by decide) rfl ?_
  intro p e s m args below meth c s₁ B hml hv
  obtain ⟨rfl, hsz, hP, hK, hD0⟩ := hv
  have hx := B.exec
  have hb := B.bytes
  have hr := B.returns
  have hts := atoms_spec (ws := zTs yX4_init cX4_init 1 none) B.pre
  have hown : s.vm.findClass RX4 = some m.cls := findClass_of_methodNamed B.named
  have hin : meth.name = "<init>" := (name_of_methodNamed B.named B.method).1
  subst hsz
  have hD := hD0.self (sz := s.heap.size)
  generalize hAe : va_A [(h0, .inr (4, [.null, .null, .null, .int 0, .int 0, .null]))] s.heap.size = A at hD ⊢
  have hA : ∀ q : Nat, s.heap.size ≤ q → A q := fun q h => by rw [← hAe]; exact Or.inr h
  have hS : va_S A s.heap s.heap [] := va_S.rf
  have hl := lv_entry ([.ref h0]) (n := 1) (Nat.le_of_ble_eq_true rfl)
  rw [lg_entry_eq]
  generalize (lg_sl ([.ref h0]) ++ List.replicate (1 - (lg_sl ([.ref h0])).length) Slot.unset).toArray = ls at hl ⊢
  have hl : lv_has ls 1 [(0, .ref h0)] := hl
  refine lv_aload_n hx hb dX4_init_0 rfl (lv_at hl 0 rfl) ?_
  refine W.objInit hx hb hown (zT0 hts (tw1 (i := 151) rfl) rfl) (zT0 hts (tw1 (i := 18) rfl) rfl) (zT0 hts (tw1 (i := 19) rfl) rfl) rfl (by rw [hml]; exact hl.1) rfl dX4_init_1 (Nat.le_of_ble_eq_true rfl) (Nat.le_of_ble_eq_true rfl) ?_
  refine W.eq (g2 := F0 m 4 ls []) rfl ?_
  refine lv_aload_n hx hb dX4_init_4 rfl (lv_at hl 0 rfl) ?_
  refine lv_iconst (v := 4) hx hb dX4_init_5 (by decide) ?_
  refine va_newa (atype := .int) (ty := .int) (N' := 4) (a0 := (4, .inl fun _ => 0)) hx hb (zT0 hts (tw1 (i := 33) rfl) rfl) rfl hK.1 hP hD hS hA (fun _ => rfl) (by decide) (by decide) (by decide) (Nat.le_of_ble_eq_true rfl) (Nat.le_of_ble_eq_true rfl) dX4_init_6 (fun q1 x1 H hK1 hP hD hS => ?_)
  have e1 := k_int hK1
  subst e1
  have hP : va_P D vwCl [(h0, .inr (4, [.null, .null, .null, .int 0, .int 0, .null])), (q1, .inl (cA 1, 4, .inl fun _ => 0))] H := hP
  have hD : va_D A [(h0, .inr (4, [.null, .null, .null, .int 0, .int 0, .null])), (q1, .inl (cA 1, 4, .inl fun _ => 0))] := hD
  refine W.widen (k := 1) (n := 4) (Nat.le_of_ble_eq_true rfl) (Nat.le_of_ble_eq_true rfl) ?_
  refine va_putF (D := D) (ci := 4) (v := .ref q1) (ty := tyX4 0) (C := RX4) (T := TX4) (N := 6) hx hb (fun w hw => hts w (zTs_W0 _ hw)) zw_X4 tyX4 tyX4_ok nmX4 hown hK.1 hP hD hS 0 rfl rfl 0 (by decide) (zT0 hts (tw1 (i := 152) rfl) rfl) (fun _ h9 => h9) rfl hin rfl (by decide +kernel) rfl rfl (Nat.le_of_ble_eq_true rfl) dX4_init_8 (fun H locs hP hD hS => ?_)
  have hP : va_P D vwCl [(h0, .inr (4, [.ref q1, .null, .null, .int 0, .int 0, .null])), (q1, .inl (cA 1, 4, .inl fun _ => 0))] H := hP
  have hD : va_D A [(h0, .inr (4, [.ref q1, .null, .null, .int 0, .int 0, .null])), (q1, .inl (cA 1, 4, .inl fun _ => 0))] := hD
  refine lv_aload_n hx hb dX4_init_11 rfl (lv_at hl 0 rfl) ?_
  refine lv_bipush (v := 96) hx hb dX4_init_12 (by decide) ?_
  refine va_newa (atype := .int) (ty := .int) (N' := 96) (a0 := (96, .inl fun _ => 0)) hx hb (zT0 hts (tw1 (i := 33) rfl) rfl) rfl hK.1 hP hD hS hA (fun _ => rfl) (by decide) (by decide) (by decide) (Nat.le_of_ble_eq_true rfl) (Nat.le_of_ble_eq_true rfl) dX4_init_14 (fun q2 x2 H hK1 hP hD hS => ?_)
  have e1 := k_int hK1
  subst e1
  have hP : va_P D vwCl [(h0, .inr (4, [.ref q1, .null, .null, .int 0, .int 0, .null])), (q1, .inl (cA 1, 4, .inl fun _ => 0)), (q2, .inl (cA 1, 96, .inl fun _ => 0))] H := hP
  have hD : va_D A [(h0, .inr (4, [.ref q1, .null, .null, .int 0, .int 0, .null])), (q1, .inl (cA 1, 4, .inl fun _ => 0)), (q2, .inl (cA 1, 96, .inl fun _ => 0))] := hD
  refine W.widen (k := 2) (n := 100) (Nat.le_of_ble_eq_true rfl) (Nat.le_of_ble_eq_true rfl) ?_
  refine va_putF (D := D) (ci := 4) (v := .ref q2) (ty := tyX4 1) (C := RX4) (T := TX4) (N := 6) hx hb (fun w hw => hts w (zTs_W0 _ hw)) zw_X4 tyX4 tyX4_ok nmX4 hown hK.1 hP hD hS 0 rfl rfl 1 (by decide) (zT0 hts (tw1 (i := 153) rfl) rfl) (fun _ h9 => h9) rfl hin rfl (by decide +kernel) rfl rfl (Nat.le_of_ble_eq_true rfl) dX4_init_16 (fun H locs hP hD hS => ?_)
  have hP : va_P D vwCl [(h0, .inr (4, [.ref q1, .ref q2, .null, .int 0, .int 0, .null])), (q1, .inl (cA 1, 4, .inl fun _ => 0)), (q2, .inl (cA 1, 96, .inl fun _ => 0))] H := hP
  have hD : va_D A [(h0, .inr (4, [.ref q1, .ref q2, .null, .int 0, .int 0, .null])), (q1, .inl (cA 1, 4, .inl fun _ => 0)), (q2, .inl (cA 1, 96, .inl fun _ => 0))] := hD
  refine lv_aload_n hx hb dX4_init_19 rfl (lv_at hl 0 rfl) ?_
  refine lv_bipush (v := 24) hx hb dX4_init_20 (by decide) ?_
  refine va_newa (atype := .int) (ty := .int) (N' := 24) (a0 := (24, .inl fun _ => 0)) hx hb (zT0 hts (tw1 (i := 33) rfl) rfl) rfl hK.1 hP hD hS hA (fun _ => rfl) (by decide) (by decide) (by decide) (Nat.le_of_ble_eq_true rfl) (Nat.le_of_ble_eq_true rfl) dX4_init_22 (fun q3 x3 H hK1 hP hD hS => ?_)
  have e1 := k_int hK1
  subst e1
  have hP : va_P D vwCl [(h0, .inr (4, [.ref q1, .ref q2, .null, .int 0, .int 0, .null])), (q1, .inl (cA 1, 4, .inl fun _ => 0)), (q2, .inl (cA 1, 96, .inl fun _ => 0)), (q3, .inl (cA 1, 24, .inl fun _ => 0))] H := hP
  have hD : va_D A [(h0, .inr (4, [.ref q1, .ref q2, .null, .int 0, .int 0, .null])), (q1, .inl (cA 1, 4, .inl fun _ => 0)), (q2, .inl (cA 1, 96, .inl fun _ => 0)), (q3, .inl (cA 1, 24, .inl fun _ => 0))] := hD
  refine W.widen (k := 3) (n := 124) (Nat.le_of_ble_eq_true rfl) (Nat.le_of_ble_eq_true rfl) ?_
  refine va_putF (D := D) (ci := 4) (v := .ref q3) (ty := tyX4 2) (C := RX4) (T := TX4) (N := 6) hx hb (fun w hw => hts w (zTs_W0 _ hw)) zw_X4 tyX4 tyX4_ok nmX4 hown hK.1 hP hD hS 0 rfl rfl 2 (by decide) (zT0 hts (tw1 (i := 154) rfl) rfl) (fun _ h9 => h9) rfl hin rfl (by decide +kernel) rfl rfl (Nat.le_of_ble_eq_true rfl) dX4_init_24 (fun H locs hP hD hS => ?_)
  have hP : va_P D vwCl [(h0, .inr (4, [.ref q1, .ref q2, .ref q3, .int 0, .int 0, .null])), (q1, .inl (cA 1, 4, .inl fun _ => 0)), (q2, .inl (cA 1, 96, .inl fun _ => 0)), (q3, .inl (cA 1, 24, .inl fun _ => 0))] H := hP
  have hD : va_D A [(h0, .inr (4, [.ref q1, .ref q2, .ref q3, .int 0, .int 0, .null])), (q1, .inl (cA 1, 4, .inl fun _ => 0)), (q2, .inl (cA 1, 96, .inl fun _ => 0)), (q3, .inl (cA 1, 24, .inl fun _ => 0))] := hD
  refine lv_aload_n hx hb dX4_init_27 rfl (lv_at hl 0 rfl) ?_
  refine lv_sipush (v := 4096) hx hb dX4_init_28 (by decide) ?_
  refine va_newa (atype := .long) (ty := .long) (N' := 4096) (a0 := (4096, .inr (.inl fun _ => 0))) hx hb (zT0 hts (tw1 (i := 145) rfl) rfl) rfl hK.1 hP hD hS hA (fun _ => rfl) (by decide) (by decide) (by decide) (Nat.le_of_ble_eq_true rfl) (Nat.le_of_ble_eq_true rfl) dX4_init_31 (fun q4 x4 H hK1 hP hD hS => ?_)
  have e1 := k_long hK1
  subst e1
  have hP : va_P D vwCl [(h0, .inr (4, [.ref q1, .ref q2, .ref q3, .int 0, .int 0, .null])), (q1, .inl (cA 1, 4, .inl fun _ => 0)), (q2, .inl (cA 1, 96, .inl fun _ => 0)), (q3, .inl (cA 1, 24, .inl fun _ => 0)), (q4, .inl (cA 3, 4096, .inr (.inl fun _ => 0)))] H := hP
  have hD : va_D A [(h0, .inr (4, [.ref q1, .ref q2, .ref q3, .int 0, .int 0, .null])), (q1, .inl (cA 1, 4, .inl fun _ => 0)), (q2, .inl (cA 1, 96, .inl fun _ => 0)), (q3, .inl (cA 1, 24, .inl fun _ => 0)), (q4, .inl (cA 3, 4096, .inr (.inl fun _ => 0)))] := hD
  refine W.widen (k := 4) (n := 4220) (Nat.le_of_ble_eq_true rfl) (Nat.le_of_ble_eq_true rfl) ?_
  refine va_putF (D := D) (ci := 4) (v := .ref q4) (ty := tyX4 5) (C := RX4) (T := TX4) (N := 6) hx hb (fun w hw => hts w (zTs_W0 _ hw)) zw_X4 tyX4 tyX4_ok nmX4 hown hK.1 hP hD hS 0 rfl rfl 5 (by decide) (zT0 hts (tw1 (i := 157) rfl) rfl) (fun _ h9 => h9) rfl hin rfl (by decide +kernel) rfl rfl (Nat.le_of_ble_eq_true rfl) dX4_init_33 (fun H locs hP hD hS => ?_)
  have hP : va_P D vwCl [(h0, .inr (4, [.ref q1, .ref q2, .ref q3, .int 0, .int 0, .ref q4])), (q1, .inl (cA 1, 4, .inl fun _ => 0)), (q2, .inl (cA 1, 96, .inl fun _ => 0)), (q3, .inl (cA 1, 24, .inl fun _ => 0)), (q4, .inl (cA 3, 4096, .inr (.inl fun _ => 0)))] H := hP
  have hD : va_D A [(h0, .inr (4, [.ref q1, .ref q2, .ref q3, .int 0, .int 0, .ref q4])), (q1, .inl (cA 1, 4, .inl fun _ => 0)), (q2, .inl (cA 1, 96, .inl fun _ => 0)), (q3, .inl (cA 1, 24, .inl fun _ => 0)), (q4, .inl (cA 3, 4096, .inr (.inl fun _ => 0)))] := hD
  let u : Nat → Nat := fun k => [h0, q1, q2, q3, q4].getD k 0
  exact W.vret hx hb hr (fun t ht hW => ⟨⟨u, rfl, rfl, by rw [ht]; exact hP, hK.moved hW, hD⟩, hS.F ht⟩) hS.2.2 dX4_init_36

end KG
