/-! THE CLAIM OUT OF ONE WALK OF THE LAW'S BODY. Your part is whole_start (and what it stands on); all else here is the same for every law, but numbers. -/
def R_law : String := "SleepStepsLaw"
def lw_P (b : Addr) (xs : List Int32) (args : Array Value) (s : State) : Prop := args = #[.ref b] ∧ s.IntsAt b xs ∧ xs.length ≤ 260 ∧ (Jvm.Cond.and given_1 narrow_1).before args s = true
def lw_Q (_ : Array Value) (s : State) (o : Outcome) (t : State) : Prop := o = .returned (some (.int 1)) ∧ Framed s o t [] 600000 7302250
def lw_Z (below : List Frame) (a : Array Value) (s : State) : State → Prop := fun t => ∃ o, t.status = .running ∧ Ended t below o ∧ lw_Q a s o t
/-- the law's own end, with 1 on the stack, nothing written that was there before, its room as the claim has it -/
theorem lw_ret {p : Program} {l : Launch} {e : Env} {s : State} {m : MethodId} {below : List Frame} {meth : Method} {c : Code} {b : Nat} (hx : p.tables.exec = Jvm.exec) (hb : c.code = code) (hr : meth.sig.returnType = ret) (hlocks : meth.locks = false) {pc : Nat} {H : Heap} {ls : Array Slot} (hdg : decode code pc = .ok (.ireturn, 1)) : W p l e room_1 s m #[Value.ref b] below meth c H [] 600000 7302250 (lw_Z below #[Value.ref b] s) (F0 m pc ls [.int 1]) := by
  intro T hT X
  obtain ⟨fs, hret, hrun, hended, hW, hframe⟩ := X.leave (v := some (.int 1)) (hlocks := hlocks) (fun h => by rw [hr] at h; cases h)
  have hmeth' : T.vm.method? m = some meth := X.method'
  refine ⟨T.setFrames fs, ?_, .returned (some (.int 1)), hrun, hended, rfl, ⟨_, rfl⟩, hW, hframe⟩
  jvm_step X.here [X.here.top, hx, hb, hdg, hmeth', hr, ret, narrow_b1]
  (try refine ⟨rfl, ?_⟩); (try refine ⟨rfl, ?_⟩)
  first | (intro acts; rw [hret _ acts rfl rfl rfl]) | rw [hret _ _ rfl rfl rfl]
  exact Steps.refl _
/-- what holds at the law's entry: the machine, the code, the tables' words (any of lw_tbl by 'hts w (by decide +kernel)'), the script of L ints xs at the cell b, what the Statement gives of the start (any of its parts by flat_of_before) -/
def lw_At (p : Program) (s : State) (m : MethodId) (meth : Method) (c : Code) (b L : Nat) (xs : Nat → Int32) : Prop :=
  p.tables.exec = Jvm.exec ∧ c.code = code ∧ meth.sig.returnType = ret ∧ c.maxLocals = 6 ∧ s.vm.findClass R_law = some m.cls ∧ (∀ w ∈ lw_tbl, w.before #[Value.ref b] s = true) ∧ va_X b L xs s s.heap ∧ b < s.heap.size ∧ meth.locks = false ∧ (Jvm.Cond.and given_1 narrow_1).before #[Value.ref b] s = true

section OP
theorem st_arr {t : FieldType} {s : State} {args : Array Value} (ht : ∀ C, t ≠ .object C) (h : (Cond.arrayClass t).before args s = true) : ∃ c, ArrOfT s c t ∧ va_RA s c t := by
  obtain ⟨c, k, comp, h1, h2, h3⟩ := Cond.arrayClass_spec h
  refine ⟨c, fun n z => ⟨fun k h => (by cases h), k, h2, comp, h3⟩, ?_⟩
  cases t <;> first
    | exact h1
    | exact absurd rfl (ht _)
theorem st_arrO {C : String} {s : State} {args : Array Value} (h : (Cond.arrayOver (.object C)).before args s = true) : ∃ c, ArrOfT s c (.object C) ∧ va_RA s c (.object C) := by
  obtain ⟨comp, c, k, h1, h2, h3, h4, h5⟩ := Cond.arrayOver_spec h
  exact ⟨c, fun n z => ⟨fun k h => (by cases h), k, h3, comp, h4⟩, k, comp, h3, h4, h1, h5⟩
theorem st_D {s : State} (h : ∀ (k : Nat) (q : vw_C), vwCl[k]? = some q → ∃ (cC : ClassId) (iS : Nat → Nat), u_Kn s q.1 q.2.1 q.2.2 cC iS) : ∃ D : va_G, ∀ (k : Nat) (q : vw_C), vwCl[k]? = some q → u_Kn s q.1 q.2.1 q.2.2 (D.1 k) (D.2 k) := by
  have h1 : ∀ k : Nat, ∃ x : ClassId × (Nat → Nat), ∀ q : vw_C, vwCl[k]? = some q → u_Kn s q.1 q.2.1 q.2.2 x.1 x.2 := fun k => by
    cases hk : vwCl[k]? with
    | none => exact ⟨((0 : Nat), fun _ => 0), fun q h => by cases h⟩
    | some q =>
      obtain ⟨a, b, hh⟩ := h k q hk
      exact ⟨(a, b), fun q' h => by cases h; exact hh⟩
  exact ⟨(fun k => (Classical.choose (h1 k)).1, fun k => (Classical.choose (h1 k)).2), fun k => Classical.choose_spec (h1 k)⟩
theorem st_tbl : ∀ w ∈ zW0, w ∈ lw_tbl := fun w hw => (List.mem_filter.mp hw).1

set_option maxHeartbeats 4000000 in
set_option maxRecDepth 100000 in
/-- what the constructors need of the tables, from the words -/
theorem st_kK {s : State} {args : Array Value} (hts : ∀ w ∈ lw_tbl, w.before args s = true) : ∃ (D : va_G) (cA : Nat → ClassId), kK D cA s := by
  obtain ⟨D, hD⟩ := st_D (s := s) (fun k q hq => by
    match k, hq with
    | 0, hq => cases hq; exact u_known (ws := lw_tbl) hts (fun w hw => st_tbl w (zw_X0 w hw)) (hts _ (tw1 (i := 76) rfl))
    | 1, hq => cases hq; exact u_known (ws := lw_tbl) hts (fun w hw => st_tbl w (zw_X1 w hw)) (hts _ (tw1 (i := 21) rfl))
    | 2, hq => cases hq; exact u_known (ws := lw_tbl) hts (fun w hw => st_tbl w (zw_X2 w hw)) (hts _ (tw1 (i := 41) rfl))
    | 3, hq => cases hq; exact u_known (ws := lw_tbl) hts (fun w hw => st_tbl w (zw_X3 w hw)) (hts _ (tw1 (i := 54) rfl))
    | 4, hq => cases hq; exact u_known (ws := lw_tbl) hts (fun w hw => st_tbl w (zw_X4 w hw)) (hts _ (tw1 (i := 147) rfl))
    | 5, hq => cases hq; exact u_known (ws := lw_tbl) hts (fun w hw => st_tbl w (zw_X5 w hw)) (hts _ (tw1 (i := 97) rfl))
    | 6, hq => cases hq; exact u_known (ws := lw_tbl) hts (fun w hw => st_tbl w (zw_X6 w hw)) (hts _ (tw1 (i := 35) rfl))
    | 7, hq => cases hq; exact u_known (ws := lw_tbl) hts (fun w hw => st_tbl w (zw_X7 w hw)) (hts _ (tw1 (i := 13) rfl))
    | n + 8, hq => simp [vwCl] at hq)
  obtain ⟨c1, g1⟩ := st_arr (t := .int) (fun C h => by cases h) (hts _ (tw1 (i := 33) rfl))
  obtain ⟨c2, g2⟩ := st_arr (t := .boolean) (fun C h => by cases h) (hts _ (tw1 (i := 144) rfl))
  obtain ⟨c3, g3⟩ := st_arr (t := .long) (fun C h => by cases h) (hts _ (tw1 (i := 145) rfl))
  have ho := (hts _ (tw1 (i := 82) rfl))
  obtain ⟨c4, g4⟩ := st_arrO (C := "SleepSteps$State") ho
  refine ⟨D, fun k => if k = 1 then c1 else if k = 2 then c2 else if k = 3 then c3 else c4, ⟨hD, fun k q hq => ?_⟩, fun w hw hn => ?_, va_AO.of ho⟩
  · match k, hq with
    | 0, hq => cases hq; exact g1
    | 1, hq => cases hq; exact g2
    | 2, hq => cases hq; exact g3
    | 3, hq => cases hq; exact g4
    | n + 4, hq => simp [kTy] at hq
  · have h1 := hts w hw
    cases w <;> first
      | (cases hn; done)
      | exact va_Nw.of rfl h1
theorem dL_0 : decode code 0 = .ok (.new 21, 3) := by decide +kernel
theorem dL_3 : decode code 3 = .ok (.dup, 1) := by decide +kernel
theorem dL_4 : decode code 4 = .ok (.invokespecial 116, 3) := by decide +kernel
theorem dL_7 : decode code 7 = .ok (.astore_n 1, 1) := by decide +kernel
theorem dL_8 : decode code 8 = .ok (.bipush 60, 2) := by decide +kernel
theorem dL_10 : decode code 10 = .ok (.newarray .int, 2) := by decide +kernel
theorem dL_12 : decode code 12 = .ok (.astore_n 2, 1) := by decide +kernel
set_option maxHeartbeats 8000000 in
set_option maxRecDepth 100000 in
theorem whole_start {p : Program} {e : Env} {s : State} {m : MethodId} {below : List Frame} {meth : Method} {c : Code} (l : Launch) (hflags : l.flags = flags0) {b L : Nat} {xs : Nat → Int32} (hL : L ≤ 260) (C0 : lw_At p s m meth c b L xs) : W p l e room_1 s m #[Value.ref b] below meth c s.heap [] 0 0 (lw_Z below #[Value.ref b] s) (entryFrame m ([Value.ref b] : List Value).toArray 6) := by
  obtain ⟨hx, hb, hr, hml, hown, hts, hX, hbl, hlocks, hgv⟩ := id C0
  obtain ⟨D, cA, hK⟩ := st_kK hts
  have hA : ∀ q : Nat, s.heap.size ≤ q → (fun q : Nat => s.heap.size ≤ q) q := fun _ h => h
  have hbA : ¬ (fun q : Nat => s.heap.size ≤ q) b := Nat.not_le.mpr hbl
  have hS : va_S (fun q : Nat => s.heap.size ≤ q) s.heap s.heap [] := va_S.rf
  have hP : va_P D vwCl [] s.heap := fun k q h => by simp at h
  have hD : va_D (fun q : Nat => s.heap.size ≤ q) [] := ⟨fun i j p q h => by simp at h, fun k q h => by simp at h⟩
  have hl := lv_entry ([.ref b]) (n := 6) (Nat.le_of_ble_eq_true rfl)
  rw [lg_entry_eq]
  generalize (lg_sl ([.ref b]) ++ List.replicate (6 - (lg_sl ([.ref b])).length) Slot.unset).toArray = ls at hl ⊢
  have hl : lv_has ls 6 [(0, .ref b)] := hl
  refine k_ni (ci := 7) ⟨hx, hb, hml, hown, hts⟩ (fun w hw => st_tbl w (zw_X7 w hw)) tyX7 tyX7_ok (hts _ (tw1 (i := 12) rfl)) (hts _ (tw1 (i := 13) rfl)) (hts _ (tw1 (i := 1) rfl)) hK hP hD hS hA rfl (k_dfl7) (k_X7_init (D := D) (cA := cA)) (cwI 0 hts (zGood st_tbl (tw1 (i := 16) rfl)) rfl rfl rfl (hts _ (tw1 (i := 1) rfl)) (hts _ (tw1 (i := 14) rfl)) (hts _ (tw1 (i := 15) rfl)) rfl ⟨by decide +kernel, by decide +kernel, by decide +kernel⟩ ⟨Nat.le_of_ble_eq_true rfl, Nat.le_of_ble_eq_true rfl⟩) hl.1 (Nat.le_of_ble_eq_true rfl) (Nat.le_of_ble_eq_true rfl) (Nat.le_of_ble_eq_true rfl) dL_0 dL_3 dL_4 (fun u7 H locs hP hD hS => ?_)
  have hP : va_P D vwCl (pat_X7 cA u7) H := hP
  have hD : va_D (fun q : Nat => s.heap.size ≤ q) (pat_X7 cA u7) := hD
  refine W.widen (k := 1000) (n := 200000) (Nat.le_of_ble_eq_true rfl) (Nat.le_of_ble_eq_true rfl) ?_
  refine lv_astore_n (lv' := [(1, .ref (u7 0)), (0, .ref b)]) hx hb dL_7 rfl hl (by decide) rfl (fun ls hl => ?_)
  refine lv_bipush (v := 60) hx hb dL_8 (by decide) ?_
  refine va_newa (atype := .int) (ty := .int) (N' := 60) (a0 := (60, .inl fun _ => 0)) hx hb (hts _ (tw1 (i := 33) rfl)) rfl hK.1 hP hD hS hA (fun _ => rfl) (by decide) (by decide) (by decide) (Nat.le_of_ble_eq_true rfl) (Nat.le_of_ble_eq_true rfl) dL_10 (fun q1 x1 H hK1 hP hD hS => ?_)
  have e1 := k_int hK1
  subst e1
  have hP : va_P D vwCl (patL cA u7 q1) H := hP
  have hD : va_D (fun q : Nat => s.heap.size ≤ q) (patL cA u7 q1) := hD
  refine lv_astore_n (lv' := [(2, .ref q1), (1, .ref (u7 0)), (0, .ref b)]) hx hb dL_12 rfl hl (by decide) rfl (fun ls hl => ?_)
  refine W.widen (k := 600000) (n := 7302250) (Nat.le_of_ble_eq_true rfl) (Nat.le_of_ble_eq_true rfl) ?_
  obtain ⟨w', hw⟩ := law_start (w := w0 L xs) (fun t i j ht => by
    have e1 : Nat.beq t 50 = false := by
      cases hb : Nat.beq t 50 with
      | false => rfl
      | true => exact absurd (Nat.eq_of_beq_eq_true hb) (by omega)
    have e2 : Nat.beq t 51 = false := by
      cases hb : Nat.beq t 51 with
      | false => rfl
      | true => exact absurd (Nat.eq_of_beq_eq_true hb) (by omega)
    show (bif Nat.beq t 50 then xs j else bif Nat.beq t 51 then nI L else 0) = nI 0
    rw [e1, e2]
    rfl)
  have hX1 : va_X b L xs s H := hX.kept (hS.2.1 b hbl hbA)
  refine law_run hx hb hml hown hts hK.zK (st_inj (b := b) hD hbA) (fun t i ht hi => st_far hD ht hi) (fun pc H ls hd => lw_ret hx hb hr hlocks hd) hw (fun v hv => by cases hv) (fun i v hv => ?_) H locs ls (st_rep hL hP hX1) hS ⟨_, hl, fun i v hv => ?_⟩
  · rcases i with _ | _ | _ | _ | _ | _ | i
    · cases hv; exact (by decide : 0 < zcnt 50)
    · cases hv; exact (by decide : 0 < zcnt 7)
    · cases hv; exact (by decide : 0 < zcnt 30)
    · cases hv
    · cases hv
    · cases hv
    · cases hv
  · rcases i with _ | _ | _ | _ | _ | _ | i
    · cases hv; exact List.mem_of_getElem? (i := 2) rfl
    · cases hv; exact List.mem_of_getElem? (i := 1) rfl
    · cases hv; exact List.mem_of_getElem? (i := 0) rfl
    · cases hv
    · cases hv
    · cases hv
    · cases hv
end OP
