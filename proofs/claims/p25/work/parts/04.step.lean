/-! ONE INSTRUCTION OF THE EXECUTOR is one of the machine's. -/
theorem zlen_eq {w w' : Wd} (h : w'.1 51 0 0 = w.1 51 0 0) (t i : Nat) : zlen t i w' = zlen t i w := by
  unfold zlen
  cases hz : zop zR t with
  | none => rfl
  | some q =>
    have hm := zop_mem hz
    simp only [zR, List.mem_cons, Prod.mk.injEq, List.not_mem_nil, or_false] at hm
    rcases hm with hm | hm | hm | hm | hm | hm | hm | hm | hm | hm | hm | hm | hm | hm | hm <;> (obtain ⟨-, rfl⟩ := hm; first | rfl | (show (w'.1 51 0 0).toNatClampNeg = _; rw [h]))
theorem zval_eq {w w' : Wd} {t i k : Nat} (h1 : w'.1 t i k = w.1 t i k) (h2 : w'.2 t i k = w.2 t i k) (q : Nat × Nat × Nat) : zval q t i k w' = zval q t i k w := by
  unfold zval; rw [h1, h2]
theorem zvals_eq {w w' : Wd} {t i : Nat} : ∀ (l : List (Nat × Nat × Nat)) (k0 : Nat), (∀ k, k0 ≤ k → w'.1 t i k = w.1 t i k ∧ w'.2 t i k = w.2 t i k) → zvals t i w' k0 l = zvals t i w k0 l
  | [], _, _ => rfl
  | q :: r, k0, h => by
    have h0 := h k0 (Nat.le_refl _)
    rw [zvals, zvals, zval_eq h0.1 h0.2, zvals_eq r (k0 + 1) fun k hk => h k (by omega)]
theorem zcell_eq {ad : Nat → Nat → Nat} {cA : Nat → ClassId} {w w' : Wd} {t i : Nat} (h1 : w'.1 t i = w.1 t i) (h2 : w'.2 t i = w.2 t i) (h : w'.1 51 0 0 = w.1 51 0 0) : zcell ad cA t i w' = zcell ad cA t i w := by
  unfold zcell
  rw [zlen_eq h, h1, h2, zvals_eq (zfs t) 0 fun k _ => ⟨congrFun h1 k, congrFun h2 k⟩]
theorem zRep.change {D : va_G} {ad : Nat → Nat → Nat} {cA : Nat → ClassId} {w w' : Wd} {s : State} {H H1 : Heap} {t i : Nat} (h : zRep D ad cA w s H) (hI : zInj ad) (ht : t ≠ 50) (hi : i < zcnt t)
    (h1 : ∀ t' i', ¬ (t' = t ∧ i' = i) → w'.1 t' i' = w.1 t' i' ∧ w'.2 t' i' = w.2 t' i') (he : va_at D vwCl (ad t i, zcell ad cA t i w') H1) (oq : ∀ q : Nat, q ≠ ad t i → H1[q]? = H[q]?) : zRep D ad cA w' s H1 := by
  have h51 : w'.1 51 0 0 = w.1 51 0 0 := by
    refine congrFun (h1 51 0 ?_).1 0
    rintro ⟨rfl, rfl⟩
    exact absurd hi (by decide)
  intro t' i' hi'
  have g := h t' i' hi'
  by_cases h50 : t' = 50
  · subst h50
    rw [if_pos rfl] at g ⊢
    have z0 : i' = 0 := by
      have : zcnt 50 = 1 := by decide
      omega
    subst z0
    have hne : ¬ (50 = t ∧ 0 = i) := fun e => ht e.1.symm
    rw [zlen_eq h51, (h1 50 0 hne).1]
    exact g.kept (oq _ fun e => hne ⟨(hI _ _ _ _ hi' hi e).1, (hI _ _ _ _ hi' hi e).2⟩)
  · rw [if_neg h50] at g ⊢
    by_cases e : t' = t ∧ i' = i
    · obtain ⟨rfl, rfl⟩ := e
      exact he
    · rw [zcell_eq (h1 _ _ e).1 (h1 _ _ e).2 h51]
      exact g.kept (oq _ fun z => e (hI _ _ _ _ hi' hi z))
theorem wI_ne (w : Wd) (t i j : Nat) (x : Int32) (t' i' : Nat) (h : ¬ (t' = t ∧ i' = i)) : (wI w t i j x).1 t' i' = w.1 t' i' ∧ (wI w t i j x).2 t' i' = w.2 t' i' := by
  refine ⟨?_, rfl⟩
  funext c
  show (if t' = t ∧ i' = i ∧ c = j then x else w.1 t' i' c) = _
  rw [if_neg]
  exact fun e => h ⟨e.1, e.2.1⟩
theorem wL_ne (w : Wd) (t i j : Nat) (x : Int64) (t' i' : Nat) (h : ¬ (t' = t ∧ i' = i)) : (wL w t i j x).1 t' i' = w.1 t' i' ∧ (wL w t i j x).2 t' i' = w.2 t' i' := by
  refine ⟨rfl, ?_⟩
  funext c
  show (if t' = t ∧ i' = i ∧ c = j then x else w.2 t' i' c) = _
  rw [if_neg]
  exact fun e => h ⟨e.1, e.2.1⟩
theorem wC_ne (w : Wd) (t0 i0 sp t i dp n : Nat) (t' i' : Nat) (h : ¬ (t' = t ∧ i' = i)) : (wC w t0 i0 sp t i dp n).1 t' i' = w.1 t' i' ∧ (wC w t0 i0 sp t i dp n).2 t' i' = w.2 t' i' := by
  refine ⟨?_, rfl⟩
  funext c
  show (if t' = t ∧ i' = i ∧ dp ≤ c ∧ c < dp + n then w.1 t0 i0 (sp + (c - dp)) else w.1 t' i' c) = _
  rw [if_neg]
  exact fun e => h ⟨e.1, e.2.1⟩
theorem wI_self (w : Wd) (t i j : Nat) (x : Int32) : (wI w t i j x).1 t i = upd (w.1 t i) j x := by
  funext c
  simp [wI, upd]
theorem wL_self (w : Wd) (t i j : Nat) (x : Int64) : (wL w t i j x).2 t i = vp_updL (w.2 t i) j x := by
  funext c
  simp [wL, vp_updL]
theorem wC_self (w : Wd) (t0 i0 sp t i dp n : Nat) : (wC w t0 i0 sp t i dp n).1 t i = va_cpy (w.1 t0 i0) (w.1 t i) sp dp n := by
  funext c
  simp [wC, va_cpy]
theorem zvals_wI (w : Wd) (t i : Nat) (x : Int32) : ∀ (l : List (Nat × Nat × Nat)) (k0 k : Nat) (q : Nat × Nat × Nat), l[k]? = some q → (q.1 = 0 ∨ q.1 = 1) → zvals t i (wI w t i (k0 + k) x) k0 l = (zvals t i w k0 l).set k (zi x)
  | [], _, _, _, h, _ => by simp at h
  | p :: r, k0, 0, q, h, hq => by
    simp only [List.getElem?_cons_zero, Option.some.injEq] at h
    subst h
    have e : zval p t i k0 (wI w t i (k0 + 0) x) = zi x := by
      unfold zval
      rcases hq with hq | hq <;> rw [hq] <;> simp [wI, Nat.beq]
    have hr : zvals t i (wI w t i (k0 + 0) x) (k0 + 1) r = zvals t i w (k0 + 1) r := zvals_eq r (k0 + 1) fun k hk => ⟨by
      have : k ≠ k0 := by omega
      simp [wI, this], rfl⟩
    rw [zvals, zvals, e, hr]
    rfl
  | p :: r, k0, k + 1, q, h, hq => by
    have h1 : r[k]? = some q := by simpa using h
    have e1 : (wI w t i (k0 + (k + 1)) x).1 t i k0 = w.1 t i k0 := by simp [wI]
    have e : zval p t i k0 (wI w t i (k0 + (k + 1)) x) = zval p t i k0 w := zval_eq e1 rfl p
    rw [zvals, zvals, e]
    show _ :: zvals t i (wI w t i (k0 + (k + 1)) x) (k0 + 1) r = _ :: (zvals t i w (k0 + 1) r).set k (zi x)
    rw [← zvals_wI w t i x r (k0 + 1) k q h1 hq, show k0 + 1 + k = k0 + (k + 1) by omega]
theorem zvals_wL (w : Wd) (t i : Nat) (x : Int64) : ∀ (l : List (Nat × Nat × Nat)) (k0 k : Nat) (q : Nat × Nat × Nat), l[k]? = some q → q.1 = 2 → zvals t i (wL w t i (k0 + k) x) k0 l = (zvals t i w k0 l).set k (zl x)
  | [], _, _, _, h, _ => by simp at h
  | p :: r, k0, 0, q, h, hq => by
    simp only [List.getElem?_cons_zero, Option.some.injEq] at h
    subst h
    have e : zval p t i k0 (wL w t i (k0 + 0) x) = zl x := by
      unfold zval
      rw [hq]
      simp [wL, Nat.beq]
    have hr : zvals t i (wL w t i (k0 + 0) x) (k0 + 1) r = zvals t i w (k0 + 1) r := zvals_eq r (k0 + 1) fun k hk => ⟨rfl, by
      have : k ≠ k0 := by omega
      simp [wL, this]⟩
    rw [zvals, zvals, e, hr]
    rfl
  | p :: r, k0, k + 1, q, h, hq => by
    have h1 : r[k]? = some q := by simpa using h
    have e1 : (wL w t i (k0 + (k + 1)) x).2 t i k0 = w.2 t i k0 := by simp [wL]
    have e : zval p t i k0 (wL w t i (k0 + (k + 1)) x) = zval p t i k0 w := zval_eq (w := w) (w' := wL w t i (k0 + (k + 1)) x) rfl e1 p
    rw [zvals, zvals, e]
    show _ :: zvals t i (wL w t i (k0 + (k + 1)) x) (k0 + 1) r = _ :: (zvals t i w (k0 + 1) r).set k (zl x)
    rw [← zvals_wL w t i x r (k0 + 1) k q h1 hq, show k0 + 1 + k = k0 + (k + 1) by omega]
/-! a class of the tables, as the executor has it -/
def zfc (ci k : Nat) (fin : Bool) (ty : FieldType) : Bool := match zn (zfs ci) k with
  | some q => match q.1 with
    | 0 => !fin && decide (ty = .int)
    | 1 => !fin && decide (ty = .boolean)
    | 2 => !fin && decide (ty = .long)
    | _ => true
  | none => false
def zCls (ci : Nat) (C : String) (T : u_T) (N : Nat) (ty : Nat → FieldType) : Prop :=
  vwCl[ci]? = some (C, T, N) ∧ (∀ w ∈ u_ws C T N, w ∈ zW0) ∧ (∀ k, k < N → parseFieldDescriptor (T k).2.2.1 = some (ty k)) ∧ (∀ a, a < N → ∀ b, b < N → a ≠ b → (T a).2.1 ≠ (T b).2.1) ∧ zkd ci = 0 ∧ (zfs ci).length = N ∧ ∀ k, k < N → zfc ci k (T k).2.2.2 (ty k) = true
def zFl (own : String) (cF : List (Nat × Nat × Nat)) : Prop := ∀ q ∈ cF, ∃ C T N ty, zCls q.2.1 C T N ty ∧ ((Cond.fieldLink own q.1 (T q.2.2).1 (T q.2.2).2.1 (T q.2.2).2.2.1 ∈ zW0) ∨ ∃ host, Cond.fieldLinkNest own q.1 (T q.2.2).1 (T q.2.2).2.1 (T q.2.2).2.2.1 host ∈ lw_tbl)
def zLw (own : String) (k : Nat) (v : Int64) : Cond := bif Nat.beq (k % 2) 0 then Cond.constantLong own (k / 2) v else Cond.constant own (k / 2) v.toInt32
def zLl (own : String) (cL : List (Nat × Int64)) : Prop := ∀ q ∈ cL, zLw own q.1 q.2 ∈ zW0
theorem zLw_l {own : String} {k : Nat} {v : Int64} (h : zLw own (2 * k) v ∈ zW0) : Cond.constantLong own k v ∈ zW0 := by
  have e1 : 2 * k % 2 = 0 := by omega
  have e2 : 2 * k / 2 = k := by omega
  unfold zLw at h
  rw [e1, e2] at h
  exact h
theorem zLw_i {own : String} {k : Nat} {v : Int64} (h : zLw own (2 * k + 1) v ∈ zW0) : Cond.constant own k v.toInt32 ∈ zW0 := by
  have e1 : (2 * k + 1) % 2 = 1 := by omega
  have e2 : (2 * k + 1) / 2 = k := by omega
  unfold zLw at h
  rw [e1, e2] at h
  exact h
/-! the static check of a row -/
def ztsw (pc lo : Int) : List Int → List (Int × Nat) → Bool
  | [], [] => true
  | o :: os, q :: qs => decide (q.1 = lo) && decide ((q.2 : Int) = pc + o) && ztsw pc (lo + 1) os qs
  | _, _ => false
def zlsw (pc : Int) : List (Int × Int) → List (Int × Nat) → Bool
  | [], [] => true
  | o :: os, q :: qs => decide (q.1 = o.1) && decide ((q.2 : Int) = pc + o.2) && decide (-2147483648 ≤ o.1) && decide (o.1 < 2147483648) && zlsw pc os qs
  | _, _ => false
def zdc (i : Instr) (len tgt : Nat) (sw : List (Int × Nat)) (nL pc : Nat) : Bool := match i with
  | .iconst _ => Nat.beq len 1
  | .bipush n => Nat.beq len 2 && decide (-128 ≤ n) && decide (n < 128)
  | .sipush n => Nat.beq len 3 && decide (-32768 ≤ n) && decide (n < 32768)
  | .lconst _ => Nat.beq len 1
  | .ldc2_w _ => Nat.beq len 3
  | .ldc _ => Nat.beq len 2
  | .iload _ => Nat.beq len 2
  | .iload_n _ => Nat.beq len 1
  | .lload _ => Nat.beq len 2
  | .lload_n _ => Nat.beq len 1
  | .aload _ => Nat.beq len 2
  | .aload_n _ => Nat.beq len 1
  | .istore k => Nat.beq len 2 && Nat.blt k nL
  | .istore_n k => Nat.beq len 1 && Nat.blt k.val nL
  | .lstore k => Nat.beq len 2 && Nat.blt (k + 1) nL
  | .lstore_n k => Nat.beq len 1 && Nat.blt (k.val + 1) nL
  | .astore k => Nat.beq len 2 && Nat.blt k nL
  | .astore_n k => Nat.beq len 1 && Nat.blt k.val nL
  | .iinc k _ => Nat.beq len 3 && Nat.blt k nL
  | .goto off => Nat.beq len 3 && decide ((pc : Int) + off = (tgt : Int))
  | .ifCond _ off => Nat.beq len 3 && decide ((pc : Int) + off = (tgt : Int))
  | .if_icmp _ off => Nat.beq len 3 && decide ((pc : Int) + off = (tgt : Int))
  | .tableswitch d lo hi offs => decide ((pc : Int) + d = (tgt : Int)) && decide (-2147483648 ≤ lo) && decide (hi < 2147483648) && decide ((offs.toList.length : Int) = hi - lo + 1) && ztsw pc lo offs.toList sw
  | .lookupswitch d ps => decide ((pc : Int) + d = (tgt : Int)) && (ps.toList.zip (ps.toList.drop 1)).all (fun (a, next) => a.1 < next.1) && zlsw pc ps.toList sw
  | .getfield _ => Nat.beq len 3
  | .putfield _ => Nat.beq len 3
  | .invokevirtual _ => Nat.beq len 3
  | .invokestatic _ => Nat.beq len 3
  | _ => Nat.beq len 1
theorem zsw_table {ρ : Type} {X : ρ} {x : Int32} {d : Option ρ} {J : Nat → Option ρ} {pc : Int} : ∀ (os : List Int) (sw : List (Int × Nat)) (lo : Int), ztsw pc lo os sw = true → -2147483648 ≤ lo → lo + os.length ≤ 2147483648 → zsw x d J sw = some X →
    (∃ (k : Nat) (o : Int), os[k]? = some o ∧ x.toInt = lo + k ∧ ∃ t : Nat, (t : Int) = pc + o ∧ J t = some X) ∨ ((x.toInt < lo ∨ lo + os.length ≤ x.toInt) ∧ d = some X)
  | [], [], lo, _, _, _, h => Or.inr ⟨by simp; omega, h⟩
  | [], _ :: _, _, hz, _, _, _ => by simp [ztsw] at hz
  | _ :: _, [], _, hz, _, _, _ => by simp [ztsw] at hz
  | o :: os, q :: qs, lo, hz, h1, h2, h => by
    simp only [ztsw, Bool.and_eq_true, decide_eq_true_eq] at hz
    obtain ⟨⟨e1, e2⟩, hz⟩ := hz
    simp only [List.length_cons] at h2
    unfold zsw at h
    by_cases hx : x = Int32.ofInt q.1
    · rw [if_pos hx] at h
      refine Or.inl ⟨0, o, rfl, ?_, q.2, e2, h⟩
      rw [hx, e1, Int32.toInt_ofInt_of_le (by omega) (by omega)]
      simp
    · rw [if_neg hx] at h
      have hne : x.toInt ≠ lo := by
        intro z
        apply hx
        rw [e1]
        apply Int32.toInt_inj.mp
        rw [Int32.toInt_ofInt_of_le (by omega) (by omega), z]
      rcases zsw_table os qs (lo + 1) hz (by omega) (by omega) h with ⟨k, o', g1, g2, g3⟩ | ⟨g1, g2⟩
      · exact Or.inl ⟨k + 1, o', by simpa using g1, by omega, g3⟩
      · refine Or.inr ⟨?_, g2⟩
        simp only [List.length_cons]
        omega
theorem zsw_lookup {ρ : Type} {X : ρ} {x : Int32} {d : Option ρ} {J : Nat → Option ρ} {pc : Int} {dd : Int} : ∀ (os : List (Int × Int)) (sw : List (Int × Nat)), zlsw pc os sw = true → zsw x d J sw = some X →
    (∃ t : Nat, (t : Int) = pc + Op.lookupswitch.offset os dd x.toInt ∧ J t = some X) ∨ (Op.lookupswitch.offset os dd x.toInt = dd ∧ d = some X)
  | [], [], _, h => Or.inr ⟨rfl, h⟩
  | [], _ :: _, hz, _ => by simp [zlsw] at hz
  | _ :: _, [], hz, _ => by simp [zlsw] at hz
  | o :: os, q :: qs, hz, h => by
    simp only [zlsw, Bool.and_eq_true, decide_eq_true_eq] at hz
    obtain ⟨⟨⟨⟨e1, e2⟩, e3⟩, e4⟩, hz⟩ := hz
    obtain ⟨a, b⟩ := o
    unfold zsw at h
    rw [Op.lookupswitch.offset_cons]
    by_cases hx : x = Int32.ofInt q.1
    · rw [if_pos hx] at h
      have hk : a = x.toInt := by
        rw [hx, e1, Int32.toInt_ofInt_of_le (by simp only at e3; omega) (by simp only at e4; omega)]
      rw [if_pos hk]
      exact Or.inl ⟨q.2, e2, h⟩
    · rw [if_neg hx] at h
      have hne : ¬ a = x.toInt := by
        intro z
        apply hx
        rw [e1]
        apply Int32.toInt_inj.mp
        rw [Int32.toInt_ofInt_of_le (by simp only at e3; omega) (by simp only at e4; omega)]
        exact z.symm
      rw [if_neg hne]
      exact zsw_lookup os qs hz h
theorem zi8 {n : Int} (h1 : -128 ≤ n) (h2 : n < 128) : (Int8.ofInt n).toInt32 = Int32.ofInt n := by
  apply Int32.toInt_inj.mp
  rw [Int8.toInt_toInt32, Int8.toInt_ofInt_of_le (by omega) (by omega), Int32.toInt_ofInt_of_le (by omega) (by omega)]
theorem zi16 {n : Int} (h1 : -32768 ≤ n) (h2 : n < 32768) : (Int16.ofInt n).toInt32 = Int32.ofInt n := by
  apply Int32.toInt_inj.mp
  rw [Int16.toInt_toInt32, Int16.toInt_ofInt_of_le (by omega) (by omega), Int32.toInt_ofInt_of_le (by omega) (by omega)]
theorem zl2 (n : Fin 2) : Int64.ofNat (n : Nat) = Int64.ofInt ((n.val : Nat) : Int) := rfl
