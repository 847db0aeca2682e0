/-! new C; dup; C's own constructor. -/
section KN
variable {D : va_G} {cA : Nat → ClassId}
theorem k_range {ws : va_W} {x : Nat × va_E} : (List.range ws.length).map (fun i => (ws ++ [x])[i]?) = ws.map some := by
  apply List.ext_getElem?
  intro i
  rw [List.getElem?_map, List.getElem?_map]
  by_cases h : i < ws.length
  · rw [List.getElem?_range h]
    simp [List.getElem?_append_left h, h]
  · rw [List.getElem?_eq_none (by simp; omega), List.getElem?_eq_none (by omega)]
    rfl
theorem k_nd : ∀ (l : List Nat), l.Nodup → va_nd l = true
  | [], _ => rfl
  | a :: l, h => by
    rw [List.nodup_cons] at h
    unfold va_nd
    rw [k_nd l h.2]
    simp [h.1]
theorem k_blind {a : Array Value} {U : State} {g mk} (h : kK D cA U) : kK D cA (U.calling g mk a) := by
  refine ⟨va_K.moved (u := U) (U := U.calling g mk a) (Vm.Alike.refl U.vm) h.1, fun w hw hn => ?_, va_AO.moved (u := U) (U := U.calling g mk a) (Vm.Alike.refl U.vm) h.2.2⟩
  have h4 := h.2.1 w hw hn
  cases w <;> first
    | (cases hn; done)
    | exact va_Nw.same rfl rfl h4
theorem k_ni {p : Program} {l : Launch} {e : Env} {R : Room} {s : State} {m : MethodId} {args : Array Value} {below : List Frame} {meth : Method} {c : Code} {H H0 : Heap} {locs : List Loc} {cells slots : Nat} {Q : State → Prop} {pc : Nat} {ls : Array Slot} {rest : List Value} {A : Nat → Prop} {cc : ByteArray} {nL : Nat} {own C : String} {T : u_T} {N ci i1 i2 : Nat} {Ts : List Cond} {y : MethodName} {cc' : ByteArray} {nL' fr lc mc ms : Nat} {fs : List Value} {pat : (Nat → Nat) → va_W} {ws : va_W}
    (S : CallFix p m c cc nL s args Ts own) (hin : ∀ w ∈ u_ws C T N, w ∈ Ts) (ty : Nat → FieldType) (hty : ∀ k, k < N → parseFieldDescriptor (T k).2.2.1 = some (ty k)) (hcl : (Cond.classLink own i1 C).before args s = true) (hinst : (Cond.instantiable C N).before args s = true) (hini : (Cond.initialized C).before args s = true)
    (hK : kK D cA s) (hP : va_P D vwCl ws H) (hD : va_D A ws) (hS : va_S A H0 H locs) (hA : ∀ q, H0.size ≤ q → A q) (hc : vwCl[ci]? = some (C, T, N)) (hfs : ∀ j, j < N → defaultValue (ty j) = vp_V fs j) (hct : kCt l D cA y cc' nL' fr lc mc ms ci fs pat)
    (cw : CallB R s args own i2 y cc' nL' none (zTs y cc' nL' none) { frames := fr, cells := mc, slots := ms, locals := lc } mc ms 0 ∧ y.name = "<init>" ∧ (Cond.instanceMethod y).before args s = true) (hls : ls.size = nL) (hrm : 1 + (rest.map fun v => v.category).sum ≤ 8) (hcells : cells + 1 + mc ≤ R.cells) (hslots : slots + N + ms ≤ R.slots)
    (d1 : decode cc pc = .ok (.new i1, 3)) (d2 : decode cc (pc + 3) = .ok (.dup, 1)) (d3 : decode cc (pc + 3 + 1) = .ok (.invokespecial i2, 3))
    (kk : ∀ (u : Nat → Nat) (H1 : Heap) (locs1 : List Loc), va_P D vwCl (ws ++ pat u) H1 → va_D A (ws ++ pat u) → va_S A H0 H1 locs1 → W p l e R s m args below meth c H1 locs1 (cells + 1 + mc) (slots + N + ms) Q (F0 m (pc + 3 + 1 + 3) ls (.ref (u 0) :: rest))) :
    W p l e R s m args below meth c H locs cells slots Q (F0 m pc ls rest) := by
  obtain ⟨hx, hb, hml, hown, hts⟩ := id S
  refine va_new (ci := ci) (fs := fs) (C := C) (T := T) (N := N) hx hb hts hin ty hty hown hcl hinst hini hK.1 hP hD hS hA hc hfs (by omega) (by omega) d1 (fun q H1 hP1 hD1 hS1 => ?_)
  refine lv_dup hx hb d2 rfl ?_
  have hlen : (ws ++ [(q, (Sum.inr (ci, fs) : va_E))])[ws.length]? = some (q, .inr (ci, fs)) := by
    rw [List.getElem?_append_right (Nat.le_refl _), Nat.sub_self]; rfl
  have hC : [ws.length].map (fun i => (ws ++ [(q, (Sum.inr (ci, fs) : va_E))])[i]?) = [(q, (Sum.inr (ci, fs) : va_E))].map some := by
    rw [List.map_cons, hlen]; rfl
  have hPc : va_P D vwCl [(q, .inr (ci, fs))] H1 := fun k x hk => by
    have hz : k < 1 := (List.getElem?_eq_some_iff.mp hk).1
    rw [show k = 0 by omega] at hk
    cases hk
    exact hP1 ws.length _ hlen
  have hDc : va_D (fun _ => True) [(q, (Sum.inr (ci, fs) : va_E))] := ⟨fun i j a b h1 h2 _ => by
    have := (List.getElem?_eq_some_iff.mp h1).1
    have := (List.getElem?_eq_some_iff.mp h2).1
    simp at *
    omega, fun _ _ _ => trivial⟩
  have hFc := va_free (wc := [(q, .inr (ci, fs))]) hD1 hS1 hA [ws.length] hC
  refine va_callv (va_runI (As := []) (rest := .ref q :: rest) S (hct q H1.size) cw ⟨fun a U g mk z => by obtain ⟨q0, q1, qP, qK, qD⟩ := z; exact ⟨q0, q1, qP, k_blind qK, qD⟩, fun U hU hW => ⟨rfl, by rw [hU], by rw [hU]; exact hPc, hK.moved hW, hDc⟩⟩ rfl rfl hls rfl (lv_room (by simpa [Value.category] using hrm)) d3 ⟨by omega, by omega⟩) hS1 (fun q _ h => hFc q h) hFc (fun u t H2 locs2 ht hvm hw hB hz1 hk1 hS2 => ?_)
  obtain ⟨hP2, hK2, hD2⟩ := hB
  rw [ht] at hP2
  obtain ⟨hP3, hD3⟩ := va_join (wr := ws) (w1 := pat u) hP1 hD1 [ws.length] (List.range ws.length) hC k_range (k_nd _ List.nodup_range) (fun i hi hmem => by
    rw [List.mem_range] at hi
    rw [List.mem_singleton] at hmem
    omega) hk1 hFc hP2 hD2
  have hq : Value.ref q = Value.ref (u 0) := by rw [hw]
  rw [hq]
  exact kk u H2 locs2 hP3 hD3 hS2
theorem k_niN {p : Program} {l : Launch} {e : Env} {R : Room} {s : State} {m : MethodId} {args : Array Value} {below : List Frame} {meth : Method} {c : Code} {H H0 : Heap} {locs : List Loc} {cells slots : Nat} {Q : State → Prop} {pc : Nat} {ls : Array Slot} {rest : List Value} {A : Nat → Prop} {cc : ByteArray} {nL : Nat} {own C host : String} {T : u_T} {N ci i1 i2 : Nat} {Ts : List Cond} {y : MethodName} {cc' : ByteArray} {nL' fr lc mc ms : Nat} {fs : List Value} {pat : (Nat → Nat) → va_W} {ws : va_W}
    (S : CallFix p m c cc nL s args Ts own) (hin : ∀ w ∈ u_ws C T N, w ∈ Ts) (ty : Nat → FieldType) (hty : ∀ k, k < N → parseFieldDescriptor (T k).2.2.1 = some (ty k)) (hcl : (Cond.classLink own i1 C).before args s = true) (hinst : (Cond.instantiable C N).before args s = true) (hini : (Cond.initialized C).before args s = true)
    (hK : kK D cA s) (hP : va_P D vwCl ws H) (hD : va_D A ws) (hS : va_S A H0 H locs) (hA : ∀ q, H0.size ≤ q → A q) (hc : vwCl[ci]? = some (C, T, N)) (hfs : ∀ j, j < N → defaultValue (ty j) = vp_V fs j) (hct : kCt l D cA y cc' nL' fr lc mc ms ci fs pat)
    (cw : va_CN R s args own i2 y host cc' nL' none (zTs y cc' nL' none) { frames := fr, cells := mc, slots := ms, locals := lc } mc ms 0 ∧ y.name = "<init>" ∧ (Cond.instanceMethod y).before args s = true) (hls : ls.size = nL) (hrm : 1 + (rest.map fun v => v.category).sum ≤ 8) (hcells : cells + 1 + mc ≤ R.cells) (hslots : slots + N + ms ≤ R.slots)
    (d1 : decode cc pc = .ok (.new i1, 3)) (d2 : decode cc (pc + 3) = .ok (.dup, 1)) (d3 : decode cc (pc + 3 + 1) = .ok (.invokespecial i2, 3))
    (kk : ∀ (u : Nat → Nat) (H1 : Heap) (locs1 : List Loc), va_P D vwCl (ws ++ pat u) H1 → va_D A (ws ++ pat u) → va_S A H0 H1 locs1 → W p l e R s m args below meth c H1 locs1 (cells + 1 + mc) (slots + N + ms) Q (F0 m (pc + 3 + 1 + 3) ls (.ref (u 0) :: rest))) :
    W p l e R s m args below meth c H locs cells slots Q (F0 m pc ls rest) := by
  obtain ⟨hx, hb, hml, hown, hts⟩ := id S
  refine va_new (ci := ci) (fs := fs) (C := C) (T := T) (N := N) hx hb hts hin ty hty hown hcl hinst hini hK.1 hP hD hS hA hc hfs (by omega) (by omega) d1 (fun q H1 hP1 hD1 hS1 => ?_)
  refine lv_dup hx hb d2 rfl ?_
  have hlen : (ws ++ [(q, (Sum.inr (ci, fs) : va_E))])[ws.length]? = some (q, .inr (ci, fs)) := by
    rw [List.getElem?_append_right (Nat.le_refl _), Nat.sub_self]; rfl
  have hC : [ws.length].map (fun i => (ws ++ [(q, (Sum.inr (ci, fs) : va_E))])[i]?) = [(q, (Sum.inr (ci, fs) : va_E))].map some := by
    rw [List.map_cons, hlen]; rfl
  have hPc : va_P D vwCl [(q, .inr (ci, fs))] H1 := fun k x hk => by
    have hz : k < 1 := (List.getElem?_eq_some_iff.mp hk).1
    rw [show k = 0 by omega] at hk
    cases hk
    exact hP1 ws.length _ hlen
  have hDc : va_D (fun _ => True) [(q, (Sum.inr (ci, fs) : va_E))] := ⟨fun i j a b h1 h2 _ => by
    have := (List.getElem?_eq_some_iff.mp h1).1
    have := (List.getElem?_eq_some_iff.mp h2).1
    simp at *
    omega, fun _ _ _ => trivial⟩
  have hFc := va_free (wc := [(q, .inr (ci, fs))]) hD1 hS1 hA [ws.length] hC
  refine va_callv (va_runIN (As := []) (rest := .ref q :: rest) S (hct q H1.size) cw ⟨fun a U g mk z => by obtain ⟨q0, q1, qP, qK, qD⟩ := z; exact ⟨q0, q1, qP, k_blind qK, qD⟩, fun U hU hW => ⟨rfl, by rw [hU], by rw [hU]; exact hPc, hK.moved hW, hDc⟩⟩ rfl rfl hls rfl (lv_room (by simpa [Value.category] using hrm)) d3 ⟨by omega, by omega⟩) hS1 (fun q _ h => hFc q h) hFc (fun u t H2 locs2 ht hvm hw hB hz1 hk1 hS2 => ?_)
  obtain ⟨hP2, hK2, hD2⟩ := hB
  rw [ht] at hP2
  obtain ⟨hP3, hD3⟩ := va_join (wr := ws) (w1 := pat u) hP1 hD1 [ws.length] (List.range ws.length) hC k_range (k_nd _ List.nodup_range) (fun i hi hmem => by
    rw [List.mem_range] at hi
    rw [List.mem_singleton] at hmem
    omega) hk1 hFc hP2 hD2
  have hq : Value.ref q = Value.ref (u 0) := by rw [hw]
  rw [hq]
  exact kk u H2 locs2 hP3 hD3 hS2
end KN
