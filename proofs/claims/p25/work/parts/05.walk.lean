/-! THE WALK: a run of the executor is a walk of the machine. -/
section WK
variable {p : Program} {l : Launch} {e : Env} {R : Room} {s : State} {m : MethodId} {args : Array Value} {below : List Frame} {meth : Method} {c : Code} {cells slots : Nat} {Q : State → Prop} {cc : ByteArray} {nL : Nat} {own : String} {Ts : List Cond} {D : va_G} {ad : Nat → Nat → Nat} {cA : Nat → ClassId} {A : Nat → Prop}
/-- what holds all through a method's body -/
def zMF (p : Program) (s : State) (m : MethodId) (args : Array Value) (c : Code) (cc : ByteArray) (nL : Nat) (own : String) (Ts : List Cond) (D : va_G) (ad : Nat → Nat → Nat) (cA : Nat → ClassId) (A : Nat → Prop) : Prop :=
  p.tables.exec = Jvm.exec ∧ c.code = cc ∧ c.maxLocals = nL ∧ s.vm.findClass own = some m.cls ∧ (∀ w ∈ Ts, w.before args s = true) ∧ (∀ w ∈ zW0, w ∈ Ts) ∧ zK D cA s ∧ zInj ad ∧ ∀ t i, t ≠ 50 → i < zcnt t → A (ad t i)
/-- from this place of the executor the machine comes to Q -/
def zAt (p : Program) (l : Launch) (e : Env) (R : Room) (s : State) (m : MethodId) (args : Array Value) (below : List Frame) (meth : Method) (c : Code) (cells slots : Nat) (Q : State → Prop) (nL : Nat) (D : va_G) (ad : Nat → Nat → Nat) (cA : Nat → ClassId) (A : Nat → Prop) (pc : Nat) (st : List ZV) (lo : Lo) (w : Wd) : Prop :=
  (∀ v ∈ st, zVal v) → (∀ i v, zget lo i = some v → zVal v) → ∀ (H : Heap) (locs : List Loc) (ls : Array Slot), zRep D ad cA w s H → va_S A s.heap H locs → zLH ad ls nL lo →
    W p l e R s m args below meth c H locs cells slots Q (F0 m pc ls (st.map (zconc ad)))
theorem zv_cons {a : ZV} {r : List ZV} (h1 : zVal a) (h2 : ∀ v ∈ r, zVal v) : ∀ v ∈ a :: r, zVal v := fun v hv => by
  rcases List.mem_cons.mp hv with rfl | hv
  · exact h1
  · exact h2 v hv
theorem zv_tl {a : ZV} {r : List ZV} (h : ∀ v ∈ a :: r, zVal v) : ∀ v ∈ r, zVal v := fun v hv => h v (List.mem_cons_of_mem _ hv)
theorem zv_hd {a : ZV} {r : List ZV} (h : ∀ v ∈ a :: r, zVal v) : zVal a := h a List.mem_cons_self
/-- a call, whichever it is -/
def zCk {ρ : Type} (p : Program) (l : Launch) (e : Env) (R : Room) (s : State) (m : MethodId) (args : Array Value) (below : List Frame) (meth : Method) (c : Code) (cells slots : Nat) (Q : State → Prop) (cc : ByteArray) (nL : Nat) (D : va_G) (ad : Nat → Nat → Nat) (cA : Nat → ClassId) (A : Nat → Prop) (X : ρ) (ins : Instr) (q : Nat × ZCall ρ) : Prop :=
  ∀ (pc : Nat) (as r : List ZV) (lo : Lo) (w : Wd) (Kf : Option ZV → Wd → Option ρ), decode cc pc = .ok (ins, 3) → as.length = q.1 → zcat r ≤ 8 → q.2 as w Kf = some X →
    (∀ v w', Kf v w' = some X → zAt p l e R s m args below meth c cells slots Q nL D ad cA A (pc + 3) (v.toList ++ r) lo w') → zAt p l e R s m args below meth c cells slots Q nL D ad cA A pc (as.reverse ++ r) lo w
/-- the table of calls: virtual ones under 2 k, static ones under 2 k + 1 -/
def zMl {ρ : Type} (P : Instr → Nat × ZCall ρ → Prop) (cM : List (Nat × Nat × ZCall ρ)) : Prop := ∀ q ∈ cM, (∀ k, q.1 = 2 * k → P (.invokevirtual k) q.2) ∧ ∀ k, q.1 = 2 * k + 1 → P (.invokestatic k) q.2
/-- returns -/
def zRt {ρ : Type} (p : Program) (l : Launch) (e : Env) (R : Room) (s : State) (m : MethodId) (args : Array Value) (below : List Frame) (meth : Method) (c : Code) (cells slots : Nat) (Q : State → Prop) (cc : ByteArray) (nL : Nat) (D : va_G) (ad : Nat → Nat → Nat) (cA : Nat → ClassId) (A : Nat → Prop) (X : ρ) (ret : Option ZV → Wd → Option ρ) : Prop :=
  (∀ pc x w lo, decode cc pc = .ok (.ireturn, 1) → ret (some (zi x)) w = some X → zAt p l e R s m args below meth c cells slots Q nL D ad cA A pc [zi x] lo w) ∧
  (∀ pc x w lo, decode cc pc = .ok (.lreturn, 1) → ret (some (zl x)) w = some X → zAt p l e R s m args below meth c cells slots Q nL D ad cA A pc [zl x] lo w) ∧
  (∀ pc t i w lo, decode cc pc = .ok (.areturn, 1) → ret (some (zr t i)) w = some X → zAt p l e R s m args below meth c cells slots Q nL D ad cA A pc [zr t i] lo w) ∧
  ∀ pc w lo, decode cc pc = .ok (.return_, 1) → ret none w = some X → zAt p l e R s m args below meth c cells slots Q nL D ad cA A pc [] lo w
theorem zRep.arr {w : Wd} {H : Heap} (h : zRep D ad cA w s H) {t i : Nat} (hi : i < zcnt t) (ht : t ≠ 50) {a : ClassId × vp_A} (hc : zcell ad cA t i w = .inl a) : H[ad t i]? = some (vp_cell a.1 a.2) := by
  have g := h t i hi
  rw [if_neg ht] at g
  unfold va_at at g
  simp only [hc] at g
  exact g
theorem zcell_1 {w : Wd} {t i : Nat} (h : zkd t = 1) : zcell ad cA t i w = .inl (cA 1, zlen t i w, .inl (w.1 t i)) := by simp only [zcell, h]
theorem zcell_2 {w : Wd} {t i : Nat} (h : zkd t = 2) : zcell ad cA t i w = .inl (cA 2, zlen t i w, .inl (w.1 t i)) := by simp only [zcell, h]
theorem zcell_3 {w : Wd} {t i : Nat} (h : zkd t = 3) : zcell ad cA t i w = .inl (cA 3, zlen t i w, .inr (.inl (w.2 t i))) := by simp only [zcell, h]
theorem zcell_0 {w : Wd} {t i : Nat} (h : zkd t = 0) : zcell ad cA t i w = .inr (t, (zvals t i w 0 (zfs t)).map (zconc ad)) := by simp only [zcell, h]
theorem zkd_ne50 {t : Nat} (h : zkd t = 0 ∨ zkd t = 1 ∨ zkd t = 2 ∨ zkd t = 3 ∨ zkd t = 4) : t ≠ 50 := by
  rintro rfl
  revert h
  decide
/-- the kinds of rows, in the tables -/
theorem zK.arr (h : zK D cA s) : ArrOfT s (cA 1) .int ∧ ArrOfT s (cA 2) .boolean ∧ ArrOfT s (cA 3) .long ∧ ArrOfT s (cA 4) (.object "SleepSteps$State") :=
  ⟨(h.1.2 0 _ rfl).1, (h.1.2 1 _ rfl).1, (h.1.2 2 _ rfl).1, (h.1.2 3 _ rfl).1⟩
theorem zx_iald {pc : Nat} {t i : Nat} {x : Int32} {r : List ZV} {lo : Lo} {w : Wd} (hF : zMF p s m args c cc nL own Ts D ad cA A) (hd : decode cc pc = .ok (.iaload, 1)) (hk : (Nat.beq (zkd t) 1 || Nat.beq (zkd t) 5) = true) (hin : vp_in x (zlen t i w))
    (h : zAt p l e R s m args below meth c cells slots Q nL D ad cA A (pc + 1) (zi (w.1 t i x.toNatClampNeg) :: r) lo w) : zAt p l e R s m args below meth c cells slots Q nL D ad cA A pc (zi x :: zr t i :: r) lo w := by
  obtain ⟨hx, hb, -, -, -, -, hK, -, -⟩ := hF
  intro hv hvl H locs ls hP hS hL
  have hi : i < zcnt t := zv_hd (zv_tl hv)
  have hlt : x.toNatClampNeg < zlen t i w := Nat.not_le.mp fun q => hin (Or.inr q)
  have kk := h (zv_cons trivial (zv_tl (zv_tl hv))) hvl H locs ls hP hS hL
  by_cases h50 : t = 50
  · subst h50
    have g := hP 50 i hi
    rw [if_pos rfl] at g
    have z0 : i = 0 := by
      have : zcnt 50 = 1 := by decide
      omega
    subst z0
    obtain ⟨scr, g1, g2, g3, g4, g5⟩ := g
    exact W.iald (v := .int (w.1 50 0 x.toNatClampNeg)) hx hb g1 g2 g3 (by rw [g4]; exact hin) (g5 _ hlt) rfl rfl hd kk
  · have k1 : zkd t = 1 := by
      rcases Bool.or_eq_true _ _ ▸ hk with h | h
      · exact Nat.eq_of_beq_eq_true h
      · exfalso
        have h5 := Nat.eq_of_beq_eq_true h
        unfold zkd at h5
        cases hz : zop zR t with
        | none => rw [hz] at h5; cases h5
        | some q =>
          rw [hz] at h5
          have hm := zop_mem hz
          simp only [zR, List.mem_cons, Prod.mk.injEq, List.not_mem_nil, or_false] at hm
          rcases hm with hm | hm | hm | hm | hm | hm | hm | hm | hm | hm | hm | hm | hm | hm | hm <;> (obtain ⟨h1, rfl⟩ := hm; first | (simp at h5; done) | exact h50 h1)
    have g := hP.arr hi h50 (zcell_1 k1)
    exact W.iald (v := .int (w.1 t i x.toNatClampNeg)) hx hb g (hK.arr.1 (zlen t i w) (fun j => .int (w.1 t i j))) (fun q => by cases q) (by show ¬ (x < 0 ∨ (arrV _ _ _).slots.size ≤ _); rw [arrV_size]; exact hin) (by show (arrV _ _ _).slots[_]? = _; rw [arrV_read _ _ hlt]) rfl rfl hd kk
theorem zx_bald {pc : Nat} {t i : Nat} {x : Int32} {r : List ZV} {lo : Lo} {w : Wd} (hF : zMF p s m args c cc nL own Ts D ad cA A) (hd : decode cc pc = .ok (.baload, 1)) (hk : Nat.beq (zkd t) 2 = true) (hin : vp_in x (zlen t i w))
    (h : zAt p l e R s m args below meth c cells slots Q nL D ad cA A (pc + 1) (zi (w.1 t i x.toNatClampNeg) :: r) lo w) : zAt p l e R s m args below meth c cells slots Q nL D ad cA A pc (zi x :: zr t i :: r) lo w := by
  obtain ⟨hx, hb, -, -, -, -, hK, -, -⟩ := hF
  intro hv hvl H locs ls hP hS hL
  have hi : i < zcnt t := zv_hd (zv_tl hv)
  have hlt : x.toNatClampNeg < zlen t i w := Nat.not_le.mp fun q => hin (Or.inr q)
  have kk := h (zv_cons trivial (zv_tl (zv_tl hv))) hvl H locs ls hP hS hL
  have k1 := Nat.eq_of_beq_eq_true hk
  have g := hP.arr hi (zkd_ne50 (by omega)) (zcell_2 k1)
  exact W.zald (v := .int (w.1 t i x.toNatClampNeg)) hx hb g (hK.arr.2.1 (zlen t i w) (fun j => .int (w.1 t i j))) (fun q => by cases q) (by show ¬ (x < 0 ∨ (arrV _ _ _).slots.size ≤ _); rw [arrV_size]; exact hin) (by show (arrV _ _ _).slots[_]? = _; rw [arrV_read _ _ hlt]) rfl rfl hd kk
theorem zx_lald {pc : Nat} {t i : Nat} {x : Int32} {r : List ZV} {lo : Lo} {w : Wd} (hF : zMF p s m args c cc nL own Ts D ad cA A) (hd : decode cc pc = .ok (.laload, 1)) (hk : Nat.beq (zkd t) 3 = true) (hin : vp_in x (zlen t i w))
    (h : zAt p l e R s m args below meth c cells slots Q nL D ad cA A (pc + 1) (zl (w.2 t i x.toNatClampNeg) :: r) lo w) : zAt p l e R s m args below meth c cells slots Q nL D ad cA A pc (zi x :: zr t i :: r) lo w := by
  obtain ⟨hx, hb, -, -, -, -, hK, -, -⟩ := hF
  intro hv hvl H locs ls hP hS hL
  have hi : i < zcnt t := zv_hd (zv_tl hv)
  have hlt : x.toNatClampNeg < zlen t i w := Nat.not_le.mp fun q => hin (Or.inr q)
  have kk := h (zv_cons trivial (zv_tl (zv_tl hv))) hvl H locs ls hP hS hL
  have k1 := Nat.eq_of_beq_eq_true hk
  have g := hP.arr hi (zkd_ne50 (by omega)) (zcell_3 k1)
  exact W.lald (v := .long (w.2 t i x.toNatClampNeg)) hx hb g (hK.arr.2.2.1 (zlen t i w) (fun j => .long (w.2 t i j))) (fun q => by cases q) (by show ¬ (x < 0 ∨ (arrV _ _ _).slots.size ≤ _); rw [arrV_size]; exact hin) (by show (arrV _ _ _).slots[_]? = _; rw [arrV_read _ _ hlt]) rfl rfl hd kk
theorem zx_aald {pc : Nat} {i : Nat} {x : Int32} {r : List ZV} {lo : Lo} {w : Wd} {t n b : Nat} (hF : zMF p s m args c cc nL own Ts D ad cA A) (hd : decode cc pc = .ok (.aaload, 1)) (htb : (t = 20 ∧ n = 6 ∧ b = 1) ∨ (t = 21 ∧ n = 2 ∧ b = 7)) (hin : vp_in x n)
    (h : zAt p l e R s m args below meth c cells slots Q nL D ad cA A (pc + 1) (zr 6 (b + x.toNatClampNeg) :: r) lo w) : zAt p l e R s m args below meth c cells slots Q nL D ad cA A pc (zi x :: zr t i :: r) lo w := by
  obtain ⟨hx, hb, -, -, -, -, hK, -, -⟩ := hF
  intro hv hvl H locs ls hP hS hL
  have hi : i < zcnt t := zv_hd (zv_tl hv)
  have hlt : x.toNatClampNeg < n := Nat.not_le.mp fun q => hin (Or.inr q)
  have h9 : zcnt 6 = 9 := by decide
  have kk := h (zv_cons (show b + x.toNatClampNeg < zcnt 6 by omega) (zv_tl (zv_tl hv))) hvl H locs ls hP hS hL
  have g : H[ad t i]? = some (vp_cell (cA 4) (n, .inr (.inr (.inr (.inr (fun j => some (ad 6 (b + j)))))))) := by
    rcases htb with ⟨rfl, rfl, rfl⟩ | ⟨rfl, rfl, rfl⟩
    · exact hP.arr hi (by decide) rfl
    · exact hP.arr hi (by decide) rfl
  exact W.aald (v := .ref (ad 6 (b + x.toNatClampNeg))) (ty := .object "SleepSteps$State") hx hb g (hK.arr.2.2.2 n (fun j => va_rf (some (ad 6 (b + j))))) rfl (fun q => by cases q) (by show ¬ (x < 0 ∨ (arrV _ _ _).slots.size ≤ _); rw [arrV_size]; exact hin) (by show (arrV _ _ _).slots[_]? = _; rw [arrV_read _ _ hlt]; rfl) rfl rfl hd kk
theorem zx_iast {pc : Nat} {t i : Nat} {x j : Int32} {r : List ZV} {lo : Lo} {w : Wd} (hF : zMF p s m args c cc nL own Ts D ad cA A) (hd : decode cc pc = .ok (.iastore, 1)) (hk : Nat.beq (zkd t) 1 = true) (hin : vp_in j (zlen t i w))
    (h : zAt p l e R s m args below meth c cells slots Q nL D ad cA A (pc + 1) r lo (wI w t i j.toNatClampNeg x)) : zAt p l e R s m args below meth c cells slots Q nL D ad cA A pc (zi x :: zi j :: zr t i :: r) lo w := by
  obtain ⟨hx, hb, -, -, -, -, hK, hI, hA⟩ := hF
  intro hv hvl H locs ls hP hS hL
  have hi : i < zcnt t := zv_hd (zv_tl (zv_tl hv))
  have k1 := Nat.eq_of_beq_eq_true hk
  have ht : t ≠ 50 := zkd_ne50 (by omega)
  have g := hP.arr hi ht (zcell_1 k1)
  refine W.iast hx hb g (hK.arr.1 (zlen t i w) (fun j => .int (w.1 t i j))) (fun q => by cases q) (by show ¬ (j < 0 ∨ (arrV _ _ _).slots.size ≤ _); rw [arrV_size]; exact hin) rfl rfl hd fun H1 g1 z oq => ?_
  refine h (zv_tl (zv_tl (zv_tl hv))) hvl H1 _ ls (hP.change hI ht hi (wI_ne w t i _ x) ?_ oq) (hS.put z oq (hA t i ht hi)) hL
  unfold va_at
  simp only [zcell_1 (w := wI w t i j.toNatClampNeg x) k1]
  have h51 : zlen t i (wI w t i j.toNatClampNeg x) = zlen t i w := zlen_eq (congrFun (wI_ne w t i _ x 51 0 (by
    rintro ⟨rfl, -⟩
    have h0 : zcnt 51 = 0 := by decide
    rw [h0] at hi
    exact Nat.not_lt_zero _ hi)).1 0) t i
  rw [g1, wI_self, h51]
  simp only [vp_cell_i, arrV_store]
  congr 2
  funext k
  simp only [updV, upd]
  split <;> rfl
theorem zx_bast {pc : Nat} {t i : Nat} {x j : Int32} {r : List ZV} {lo : Lo} {w : Wd} (hF : zMF p s m args c cc nL own Ts D ad cA A) (hd : decode cc pc = .ok (.bastore, 1)) (hk : Nat.beq (zkd t) 2 = true) (hin : vp_in j (zlen t i w)) (h01 : x = 0 ∨ x = 1)
    (h : zAt p l e R s m args below meth c cells slots Q nL D ad cA A (pc + 1) r lo (wI w t i j.toNatClampNeg x)) : zAt p l e R s m args below meth c cells slots Q nL D ad cA A pc (zi x :: zi j :: zr t i :: r) lo w := by
  obtain ⟨hx, hb, -, -, -, -, hK, hI, hA⟩ := hF
  intro hv hvl H locs ls hP hS hL
  have hi : i < zcnt t := zv_hd (zv_tl (zv_tl hv))
  have k1 := Nat.eq_of_beq_eq_true hk
  have ht : t ≠ 50 := zkd_ne50 (by omega)
  have g := hP.arr hi ht (zcell_2 k1)
  refine W.zast hx hb g (hK.arr.2.1 (zlen t i w) (fun j => .int (w.1 t i j))) (fun q => by cases q) (by show ¬ (j < 0 ∨ (arrV _ _ _).slots.size ≤ _); rw [arrV_size]; exact hin) rfl rfl hd fun H1 g1 z oq => ?_
  refine h (zv_tl (zv_tl (zv_tl hv))) hvl H1 _ ls (hP.change hI ht hi (wI_ne w t i _ x) ?_ oq) (hS.put z oq (hA t i ht hi)) hL
  unfold va_at
  simp only [zcell_2 (w := wI w t i j.toNatClampNeg x) k1]
  have hn : narrow .boolean (.int x) = .int x := by
    rcases h01 with rfl | rfl <;> rfl
  have h51 : zlen t i (wI w t i j.toNatClampNeg x) = zlen t i w := zlen_eq (congrFun (wI_ne w t i _ x 51 0 (by
    rintro ⟨rfl, -⟩
    have h0 : zcnt 51 = 0 := by decide
    rw [h0] at hi
    exact Nat.not_lt_zero _ hi)).1 0) t i
  rw [g1, wI_self, hn, h51]
  simp only [vp_cell_i, arrV_store]
  congr 2
  funext k
  simp only [updV, upd]
  split <;> rfl
theorem zx_last {pc : Nat} {t i : Nat} {x : Int64} {j : Int32} {r : List ZV} {lo : Lo} {w : Wd} (hF : zMF p s m args c cc nL own Ts D ad cA A) (hd : decode cc pc = .ok (.lastore, 1)) (hk : Nat.beq (zkd t) 3 = true) (hin : vp_in j (zlen t i w))
    (h : zAt p l e R s m args below meth c cells slots Q nL D ad cA A (pc + 1) r lo (wL w t i j.toNatClampNeg x)) : zAt p l e R s m args below meth c cells slots Q nL D ad cA A pc (zl x :: zi j :: zr t i :: r) lo w := by
  obtain ⟨hx, hb, -, -, -, -, hK, hI, hA⟩ := hF
  intro hv hvl H locs ls hP hS hL
  have hi : i < zcnt t := zv_hd (zv_tl (zv_tl hv))
  have k1 := Nat.eq_of_beq_eq_true hk
  have ht : t ≠ 50 := zkd_ne50 (by omega)
  have g := hP.arr hi ht (zcell_3 k1)
  refine W.last hx hb g (hK.arr.2.2.1 (zlen t i w) (fun j => .long (w.2 t i j))) (fun q => by cases q) (by show ¬ (j < 0 ∨ (arrV _ _ _).slots.size ≤ _); rw [arrV_size]; exact hin) rfl rfl hd fun H1 g1 z oq => ?_
  refine h (zv_tl (zv_tl (zv_tl hv))) hvl H1 _ ls (hP.change hI ht hi (wL_ne w t i _ x) ?_ oq) (hS.put z oq (hA t i ht hi)) hL
  unfold va_at
  simp only [zcell_3 (w := wL w t i j.toNatClampNeg x) k1]
  rw [g1, wL_self, zlen_eq (w := w) (w' := wL w t i j.toNatClampNeg x) rfl]
  simp only [vp_cell_l, arrV_store]
  congr 2
  funext k
  simp only [updV, vp_updL]
  split <;> rfl
theorem zx_alen {pc : Nat} {t i : Nat} {r : List ZV} {lo : Lo} {w : Wd} (hF : zMF p s m args c cc nL own Ts D ad cA A) (hd : decode cc pc = .ok (.arraylength, 1)) (hk : (Nat.beq (zkd t) 1 || Nat.beq (zkd t) 3 || Nat.beq (zkd t) 5) = true)
    (h : zAt p l e R s m args below meth c cells slots Q nL D ad cA A (pc + 1) (zi (Int32.ofNat (zlen t i w)) :: r) lo w) : zAt p l e R s m args below meth c cells slots Q nL D ad cA A pc (zr t i :: r) lo w := by
  obtain ⟨hx, hb, -, -, -, -, hK, -, -⟩ := hF
  intro hv hvl H locs ls hP hS hL
  have hi : i < zcnt t := zv_hd hv
  have kk := h (zv_cons trivial (zv_tl hv)) hvl H locs ls hP hS hL
  by_cases h50 : t = 50
  · subst h50
    have g := hP 50 i hi
    rw [if_pos rfl] at g
    have z0 : i = 0 := by
      have : zcnt 50 = 1 := by decide
      omega
    subst z0
    obtain ⟨scr, g1, g2, g3, g4, g5⟩ := g
    exact W.alen (n := Int32.ofNat (zlen 50 0 w)) hx hb g1 g2 (by rw [g4]) rfl rfl hd kk
  · have k1 : zkd t = 1 ∨ zkd t = 3 := by
      simp only [Bool.or_eq_true] at hk
      rcases hk with (h | h) | h
      · exact Or.inl (Nat.eq_of_beq_eq_true h)
      · exact Or.inr (Nat.eq_of_beq_eq_true h)
      · exfalso
        have h5 := Nat.eq_of_beq_eq_true h
        unfold zkd at h5
        cases hz : zop zR t with
        | none => rw [hz] at h5; cases h5
        | some q =>
          rw [hz] at h5
          have hm := zop_mem hz
          simp only [zR, List.mem_cons, Prod.mk.injEq, List.not_mem_nil, or_false] at hm
          rcases hm with hm | hm | hm | hm | hm | hm | hm | hm | hm | hm | hm | hm | hm | hm | hm <;> (obtain ⟨h1, rfl⟩ := hm; first | (simp at h5; done) | exact h50 h1)
    rcases k1 with k1 | k1
    · have g := hP.arr hi h50 (zcell_1 k1)
      exact W.alen (n := Int32.ofNat (zlen t i w)) hx hb g (hK.arr.1 (zlen t i w) (fun j => .int (w.1 t i j))) (by show (arrV _ _ _).slots.size.toInt32 = _; rw [arrV_size]) rfl rfl hd kk
    · have g := hP.arr hi h50 (zcell_3 k1)
      exact W.alen (n := Int32.ofNat (zlen t i w)) hx hb g (hK.arr.2.2.1 (zlen t i w) (fun j => .long (w.2 t i j))) (by show (arrV _ _ _).slots.size.toInt32 = _; rw [arrV_size]) rfl rfl hd kk
theorem zx_obj {w : Wd} {H : Heap} (h : zRep D ad cA w s H) {t i : Nat} (hi : i < zcnt t) (hk : zkd t = 0) : va_P D vwCl [(ad t i, .inr (t, (zvals t i w 0 (zfs t)).map (zconc ad)))] H := by
  have g := h t i hi
  rw [if_neg (zkd_ne50 (Or.inl hk)), zcell_0 hk] at g
  intro k q hq
  cases k with
  | zero => cases hq; exact g
  | succ k => simp at hq
theorem zx_fld {w : Wd} {t i k : Nat} {q : Nat × Nat × Nat} (hq : zn (zfs t) k = some q) : ((zvals t i w 0 (zfs t)).map (zconc ad))[k]? = some (zconc ad (zval q t i k w)) := by
  rw [List.getElem?_map, zvals_get t i w (zfs t) 0 k q (zn_get hq), Nat.zero_add]
  rfl
/-- a field's value is a cell that is there -/
theorem zval_ok {w : Wd} {t i k : Nat} {q : Nat × Nat × Nat} (hi : i < zcnt t) (hq : zn (zfs t) k = some q) : zVal (zval q t i k w) := by
  have key : ∀ a ∈ zF, ∀ b ∈ a.2, (b.1 = 3 → b.2.2 < zcnt b.2.1) ∧ (b.1 = 4 → zcnt a.1 ≤ zcnt b.2.1) := by decide +kernel
  unfold zfs at hq
  cases hz : zop zF t with
  | none => rw [hz] at hq; cases hq
  | some l =>
    rw [hz] at hq
    have h1 := key _ (zop_mem hz) q (List.mem_of_getElem? (zn_get hq))
    unfold zval
    by_cases h3 : q.1 = 3
    · rw [h3]
      exact h1.1 h3
    · by_cases h4 : q.1 = 4
      · rw [h4]
        exact Nat.lt_of_lt_of_le hi (h1.2 h4)
      · have e3 : Nat.beq q.1 3 = false := by
          cases hb : Nat.beq q.1 3 with
          | false => rfl
          | true => exact absurd (Nat.eq_of_beq_eq_true hb) h3
        have e4 : Nat.beq q.1 4 = false := by
          cases hb : Nat.beq q.1 4 with
          | false => rfl
          | true => exact absurd (Nat.eq_of_beq_eq_true hb) h4
        rw [e3, e4]
        cases Nat.beq q.1 2 <;> exact trivial
theorem zx_getf {ρ : Type} {X : ρ} {pc k : Nat} {st : List ZV} {lo : Lo} {w : Wd} {cF : List (Nat × Nat × Nat)} {K : List ZV → Lo → Wd → Option ρ} (hF : zMF p s m args c cc nL own Ts D ad cA A) (hcF : zFl own cF) (hd : decode cc pc = .ok (.getfield k, 3))
    (hK : ∀ st lo w, K st lo w = some X → zAt p l e R s m args below meth c cells slots Q nL D ad cA A (pc + 3) st lo w) (h : zgf cF k st lo w K = some X) : zAt p l e R s m args below meth c cells slots Q nL D ad cA A pc st lo w := by
  obtain ⟨hx, hb, -, hown, hts, hT, hKs, -, -⟩ := hF
  obtain ⟨t, i, r, rfl, h⟩ := pR_inv h
  obtain ⟨q, hq, h⟩ := oB_inv h
  obtain ⟨ht, h⟩ := zif_inv h
  obtain ⟨f, hf, h⟩ := oB_inv h
  have ht := Nat.eq_of_beq_eq_true ht
  obtain ⟨C, T, N, ty, ⟨hC, hws, hty, hnm, hkd, hlen, hcode⟩, hlink⟩ := hcF _ (zop_mem hq)
  simp only at hC hkd hlen hcode hlink
  rw [← ht] at hC hkd hlen
  intro hv hvl H locs ls hP hS hL
  have hi : i < zcnt t := zv_hd hv
  have kk := hK _ _ _ h (zv_cons (zval_ok hi hf) (zv_tl hv)) hvl H locs ls hP hS hL
  have hkN : q.2 < N := by
    rw [← hlen]
    exact (List.getElem?_eq_some_iff.mp (zn_get hf)).1
  rcases hlink with hl | ⟨host, hl⟩
  · exact va_get (D := D) hx hb hts (fun w h => hT w (hws w h)) hown hKs.1 (zx_obj hP hi hkd) 0 rfl hC q.2 hkN (hts _ (hT _ hl)) (fun _ h => h) (zx_fld hf) hd kk
  · exact va_getN (D := D) hx hb hts (fun w h => hT w (hws w h)) hown hKs.1 (zx_obj hP hi hkd) 0 rfl hC q.2 hkN (va_Nw.use rfl (hKs.2 _ hl rfl)) (fun _ h => h) (zx_fld hf) hd kk
theorem zx_put {pc k : Nat} {t i : Nat} {v : ZV} {r : List ZV} {lo : Lo} {w w' : Wd} {cF : List (Nat × Nat × Nat)} {q : Nat × Nat} {f : Nat × Nat × Nat} (hF : zMF p s m args c cc nL own Ts D ad cA A) (hcF : zFl own cF) (hd : decode cc pc = .ok (.putfield k, 3)) (hq : zop cF k = some q) (ht : Nat.beq t q.1 = true) (hf : zn (zfs t) q.2 = some f)
    {ty1 : FieldType} (hty1 : (f.1 = 0 ∧ ty1 = .int) ∨ (f.1 = 1 ∧ ty1 = .boolean) ∨ (f.1 = 2 ∧ ty1 = .long)) (hn : narrow ty1 (zconc ad v) = zconc ad v) (hfit : fits ty1 (zconc ad v) = true)
    (hw : ∀ t' i', ¬ (t' = t ∧ i' = i) → w'.1 t' i' = w.1 t' i' ∧ w'.2 t' i' = w.2 t' i') (hset : zvals t i w' 0 (zfs t) = (zvals t i w 0 (zfs t)).set q.2 v)
    (h : zAt p l e R s m args below meth c cells slots Q nL D ad cA A (pc + 3) r lo w') : zAt p l e R s m args below meth c cells slots Q nL D ad cA A pc (v :: zr t i :: r) lo w := by
  obtain ⟨hx, hb, -, hown, hts, hT, hKs, hI, hA⟩ := hF
  have ht := Nat.eq_of_beq_eq_true ht
  obtain ⟨C, T, N, ty, ⟨hC, hws, hty, hnm, hkd, hlen, hcode⟩, hlink⟩ := hcF _ (zop_mem hq)
  simp only at hC hkd hlen hcode hlink
  rw [← ht] at hC hkd hlen hcode
  intro hv hvl H locs ls hP hS hL
  have hi : i < zcnt t := zv_hd (zv_tl hv)
  have h50 : t ≠ 50 := zkd_ne50 (Or.inl hkd)
  have hkN : q.2 < N := by
    rw [← hlen]
    exact (List.getElem?_eq_some_iff.mp (zn_get hf)).1
  have hcc := hcode q.2 hkN
  unfold zfc at hcc
  rw [hf] at hcc
  have hfin : (T q.2).2.2.2 = false ∧ ty q.2 = ty1 := by
    rcases hty1 with ⟨h1, rfl⟩ | ⟨h1, rfl⟩ | ⟨h1, rfl⟩ <;> (simp only [h1] at hcc; simpa using hcc)
  have hin : ∀ w ∈ u_ws C T N, w ∈ Ts := fun w h => hT w (hws w h)
  have hap := va_apart (own := own) hts hin ty hty hnm hKs.1 hC
  have hPo := zx_obj hP hi hkd
  obtain ⟨r0, h1, cell, q1, q2, q3, q4⟩ := hPo 0 _ rfl
  have hr : r0 = (C, T, N) := Option.some.inj (h1.symm.trans hC)
  subst hr
  obtain ⟨hSl, hfc, kC, hkC, hkind⟩ := hKs.1.1 t _ hC
  obtain ⟨cf, kf, fi, fd, hi', hsl⟩ := hSl q.2 hkN
  have hlay := hts _ (hin _ (u_in_lay hkN))
  unfold u_lay at hlay
  rw [if_neg (by rw [hfin.1]; decide)] at hlay
  have hst := (u_facts hfc hkC (u_lays hts hin hkN) hi').1
  have h6 := u_store hfc hkC hkind hlay hi' (hfin.2 ▸ hty q.2 hkN) hn hfit
  have fin : ∀ H' : Heap, H'[ad t i]? = some (cell.setSlot fd.slot (zconc ad v)) → H'.size = H.size → (∀ q, q ≠ ad t i → H'[q]? = H[q]?) → W p l e R s m args below meth c H' (locs ++ [⟨ad t i, fd.slot⟩]) cells slots Q (F0 m (pc + 3) ls (r.map (zconc ad))) := by
    intro H' e1 e2 e3
    rw [hsl] at e1 ⊢
    refine h (zv_tl (zv_tl hv)) hvl H' _ ls (hP.change hI h50 hi hw ?_ e3) (hS.put e2 e3 (hA t i h50 hi)) hL
    rw [zcell_0 hkd, hset, List.map_set]
    exact ⟨_, hC, t_OB.to (V := updV (vp_V ((zvals t i w 0 (zfs t)).map (zconc ad))) q.2 (zconc ad v)) ⟨_, e1, q2, q3, t_set q4 hap hkN (zconc ad v)⟩ (fun j _ => vp_updV_set (by rw [List.length_map, zvals_len, hlen]; exact hkN) (zconc ad v) j)⟩
  rcases hlink with hl | ⟨host, hl⟩
  · exact W.putK hx hb (f := fd) ⟨hown, hts _ (hT _ hl), ⟨_, _, _, hi'⟩, hst⟩ (by rw [q2]; exact h6) q1 q3 (by rw [hsl]; exact k2_hasslot (q4 q.2 hkN)) rfl rfl hd fin
  · exact va_WputK hx hb (f := fd) hown (va_Nw.use rfl (hKs.2 _ hl rfl)) hi' hst (by rw [q2]; exact h6) q1 q3 (by rw [hsl]; exact k2_hasslot (q4 q.2 hkN)) rfl rfl hd fin
theorem zx_putf {ρ : Type} {X : ρ} {pc k : Nat} {st : List ZV} {lo : Lo} {w : Wd} {cF : List (Nat × Nat × Nat)} {K : List ZV → Lo → Wd → Option ρ} (hF : zMF p s m args c cc nL own Ts D ad cA A) (hcF : zFl own cF) (hd : decode cc pc = .ok (.putfield k, 3))
    (hK : ∀ st lo w, K st lo w = some X → zAt p l e R s m args below meth c cells slots Q nL D ad cA A (pc + 3) st lo w) (h : zpf cF k st lo w K = some X) : zAt p l e R s m args below meth c cells slots Q nL D ad cA A pc st lo w := by
  rcases st with _ | ⟨v, st⟩
  · cases h
  rcases v with x | x | qq
  · simp only [zpf] at h
    obtain ⟨t, i, r, rfl, h⟩ := pR_inv h
    obtain ⟨q, hq, h⟩ := oB_inv h
    obtain ⟨ht, h⟩ := zif_inv h
    obtain ⟨f, hf, h⟩ := oB_inv h
    have hset : (f.1 = 0 ∨ f.1 = 1) → zvals t i (wI w t i q.2 x) 0 (zfs t) = (zvals t i w 0 (zfs t)).set q.2 (zi x) := fun hc => by
      have := zvals_wI w t i x (zfs t) 0 q.2 f (zn_get hf) hc
      rwa [Nat.zero_add] at this
    split at h
    · rename_i h0
      exact zx_put hF hcF hd hq ht hf (Or.inl ⟨h0, rfl⟩) rfl rfl (wI_ne w t i _ x) (hset (Or.inl h0)) (hK _ _ _ h)
    · rename_i h0
      obtain ⟨h01, h⟩ := zb_inv h
      exact zx_put hF hcF hd hq ht hf (Or.inr (Or.inl ⟨h0, rfl⟩)) (by rcases h01 with rfl | rfl <;> rfl) (by rcases h01 with rfl | rfl <;> rfl) (wI_ne w t i _ x) (hset (Or.inr h0)) (hK _ _ _ h)
    · cases h
  · simp only [zpf] at h
    obtain ⟨t, i, r, rfl, h⟩ := pR_inv h
    obtain ⟨q, hq, h⟩ := oB_inv h
    obtain ⟨ht, h⟩ := zif_inv h
    obtain ⟨f, hf, h⟩ := oB_inv h
    split at h
    · rename_i h0
      refine zx_put hF hcF hd hq ht hf (Or.inr (Or.inr ⟨h0, rfl⟩)) rfl rfl (wL_ne w t i _ x) ?_ (hK _ _ _ h)
      have := zvals_wL w t i x (zfs t) 0 q.2 f (zn_get hf) h0
      rwa [Nat.zero_add] at this
    · cases h
  · cases h
end WK
