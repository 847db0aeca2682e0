/-! THE EXECUTOR IS SOUND: what it answers, the machine answers. -/
def zW0 : List Cond := lw_tbl.filter goodWord
theorem zW0_mem {w : Cond} (h : w ∈ lw_tbl) (hg : goodWord w = true) : w ∈ zW0 := List.mem_filter.mpr ⟨h, hg⟩
def zNest : Cond → Bool
  | .fieldLinkNest .. => true
  | .methodLinkNest .. => true
  | _ => false
def zTs (y : MethodName) (cc : ByteArray) (nL : Nat) (rt : Option FieldType) : List Cond := .code y cc nL rt :: zW0
theorem zTs_W0 {y : MethodName} {cc : ByteArray} {nL : Nat} {rt : Option FieldType} : ∀ w ∈ zW0, w ∈ zTs y cc nL rt := fun _ h => List.mem_cons_of_mem _ h
theorem zGood {Ts : List Cond} (hT : ∀ w ∈ zW0, w ∈ Ts) {y : MethodName} {cc : ByteArray} {nL : Nat} {rt : Option FieldType} (h : Cond.code y cc nL rt ∈ lw_tbl) : GoodIn Ts (zTs y cc nL rt) := by
  intro w hw
  rcases List.mem_cons.mp hw with rfl | hw
  · exact ⟨hT _ (zW0_mem h rfl), good_of_word rfl⟩
  · exact ⟨hT _ hw, good_of_word (List.mem_filter.mp hw).2⟩
def zconc (ad : Nat → Nat → Nat) : ZV → Value
  | Sum.inl x => .int x
  | Sum.inr (Sum.inl x) => .long x
  | Sum.inr (Sum.inr q) => .ref (ad q.1 q.2)
def zVal : ZV → Prop
  | Sum.inr (Sum.inr q) => q.2 < zcnt q.1
  | _ => True
def zcell (ad : Nat → Nat → Nat) (cA : Nat → ClassId) (t i : Nat) (w : Wd) : va_E := match zkd t with
  | 0 => .inr (t, (zvals t i w 0 (zfs t)).map (zconc ad))
  | 1 => .inl (cA 1, zlen t i w, .inl (w.1 t i))
  | 2 => .inl (cA 2, zlen t i w, .inl (w.1 t i))
  | 3 => .inl (cA 3, zlen t i w, .inr (.inl (w.2 t i)))
  | _ => .inl (cA 4, zlen t i w, .inr (.inr (.inr (.inr (fun j => some (ad 6 ((if t = 20 then 1 else 7) + j)))))))
def zRep (D : va_G) (ad : Nat → Nat → Nat) (cA : Nat → ClassId) (w : Wd) (s : State) (H : Heap) : Prop :=
  ∀ t i, i < zcnt t → if t = 50 then va_X (ad 50 0) (zlen 50 0 w) (w.1 50 0) s H else va_at D vwCl (ad t i, zcell ad cA t i w) H
def zK (D : va_G) (cA : Nat → ClassId) (s : State) : Prop :=
  va_K D vwCl [(cA 1, .int), (cA 2, .boolean), (cA 3, .long), (cA 4, .object "SleepSteps$State")] s ∧ ∀ w ∈ lw_tbl, zNest w = true → va_Nw w s
def zInj (ad : Nat → Nat → Nat) : Prop := ∀ t i t' i', i < zcnt t → i' < zcnt t' → ad t i = ad t' i' → t = t' ∧ i = i'
def zA (ad : Nat → Nat → Nat) : Nat → Prop := fun q => ∃ t i, t ≠ 50 ∧ i < zcnt t ∧ q = ad t i
def zLH (ad : Nat → Nat → Nat) (ls : Array Slot) (nL : Nat) (lo : Lo) : Prop := ∃ l, lv_has ls nL l ∧ ∀ i v, zget lo i = some v → (i, zconc ad v) ∈ l
theorem zRep.moved {D : va_G} {ad : Nat → Nat → Nat} {cA : Nat → ClassId} {w : Wd} {s U : State} {H : Heap} (hvm : s.vm.Alike U.vm) (h : zRep D ad cA w s H) : zRep D ad cA w U H := by
  intro t i hi
  have h1 := h t i hi
  by_cases ht : t = 50
  · rw [if_pos ht] at h1 ⊢
    exact va_X.moved hvm h1
  · rw [if_neg ht] at h1 ⊢
    exact h1
theorem zK.moved {D : va_G} {cA : Nat → ClassId} {s U : State} (hW : s.WarmedH U.vm) (h : zK D cA s) : zK D cA U := by
  refine ⟨va_K.moved hW.alike h.1, fun w hw hn => ?_⟩
  have h1 := h.2 w hw hn
  cases w <;> first
    | (cases hn; done)
    | exact va_Nw.warmF hW h1
    | exact va_Nw.warmM hW h1
/-! locals -/
theorem zget_zset : ∀ (lo : Lo) (k i : Nat) (v : Option ZV) (u : ZV), zget (zset lo k v) i = some u → (i = k ∧ v = some u) ∨ (i ≠ k ∧ zget lo i = some u)
  | [], _, _, _, _, h => by cases h
  | a :: l, 0, 0, v, u, h => Or.inl ⟨rfl, h⟩
  | a :: l, 0, i + 1, v, u, h => Or.inr ⟨by omega, h⟩
  | a :: l, k + 1, 0, v, u, h => Or.inr ⟨by omega, h⟩
  | a :: l, k + 1, i + 1, v, u, h => by
    rcases zget_zset l k i v u h with ⟨h1, h2⟩ | ⟨h1, h2⟩
    · exact Or.inl ⟨by omega, h2⟩
    · exact Or.inr ⟨by omega, h2⟩
theorem zget_zkill {lo : Lo} {k i : Nat} {u : ZV} (h : zget (zkill lo k) i = some u) : zget lo i = some u ∧ ∀ x, i + 1 = k → u ≠ zl x := by
  cases k with
  | zero => exact ⟨h, fun x e => by omega⟩
  | succ j =>
    have fin : zget lo i = some u → (∀ x, zget lo j ≠ some (zl x)) → zget lo i = some u ∧ ∀ x, i + 1 = j + 1 → u ≠ zl x := by
      intro h1 hn
      refine ⟨h1, fun x e hu => ?_⟩
      have : i = j := by omega
      subst this; subst hu
      exact hn _ h1
    cases hz : zget lo j with
    | none => exact fin (by simpa [zkill, hz] using h) (fun x e => by rw [hz] at e; cases e)
    | some a =>
      rcases a with x | x | q
      · exact fin (by simpa [zkill, hz] using h) (fun x e => by rw [hz] at e; cases e)
      · have h2 : zget (zset lo j none) i = some u := by simpa [zkill, hz] using h
        rcases zget_zset _ _ _ _ _ h2 with ⟨h1, h2⟩ | ⟨h1, h2⟩
        · cases h2
        · exact ⟨h2, fun x e => by omega⟩
      · exact fin (by simpa [zkill, hz] using h) (fun x e => by rw [hz] at e; cases e)
theorem zcat_conc {ad : Nat → Nat → Nat} (v : ZV) : (zconc ad v).category = 2 → ∃ x, v = zl x := by
  intro h
  rcases v with x | x | q
  · cases h
  · exact ⟨x, rfl⟩
  · cases h
theorem zst1_mem {ad : Nat → Nat → Nat} {lo : Lo} {l : List (Nat × Value)} (h : ∀ i v, zget lo i = some v → (i, zconc ad v) ∈ l) (k : Nat) (v : ZV) :
    ∀ i u, zget (zst1 lo k v) i = some u → (i, zconc ad u) ∈ (k, zconc ad v) :: l.filter (fun q => !(q.1 == k) && !(q.1 + 1 == k && q.2.category == 2)) := by
  intro i u hu
  rcases zget_zset _ _ _ _ _ hu with ⟨h1, h2⟩ | ⟨h1, h2⟩
  · cases h2
    rw [h1]
    exact List.mem_cons_self
  · obtain ⟨g1, g2⟩ := zget_zkill h2
    refine List.mem_cons_of_mem _ (List.mem_filter.mpr ⟨h i u g1, ?_⟩)
    simp only [Bool.and_eq_true, Bool.not_eq_true', beq_eq_false_iff_ne, ne_eq, Bool.and_eq_false_iff]
    refine ⟨h1, ?_⟩
    by_cases e : i + 1 = k
    · right
      intro hc
      obtain ⟨x, hx⟩ := zcat_conc u hc
      exact g2 x e hx
    · exact Or.inl e
theorem zst2_mem {ad : Nat → Nat → Nat} {lo : Lo} {l : List (Nat × Value)} (h : ∀ i v, zget lo i = some v → (i, zconc ad v) ∈ l) (k : Nat) (v : ZV) :
    ∀ i u, zget (zst2 lo k v) i = some u → (i, zconc ad u) ∈ (k, zconc ad v) :: l.filter (fun q => !(q.1 == k) && (!(q.1 == k + 1) && !(q.1 + 1 == k && q.2.category == 2))) := by
  intro i u hu
  rcases zget_zset _ _ _ _ _ hu with ⟨h1, h2⟩ | ⟨h0, h3⟩
  · cases h2
  rcases zget_zset _ _ _ _ _ h3 with ⟨h1, h2⟩ | ⟨h1, h2⟩
  · cases h2
    rw [h1]
    exact List.mem_cons_self
  · obtain ⟨g1, g2⟩ := zget_zkill h2
    refine List.mem_cons_of_mem _ (List.mem_filter.mpr ⟨h i u g1, ?_⟩)
    simp only [Bool.and_eq_true, Bool.not_eq_true', beq_eq_false_iff_ne, ne_eq, Bool.and_eq_false_iff]
    refine ⟨h1, h0, ?_⟩
    by_cases e : i + 1 = k
    · right
      intro hc
      obtain ⟨x, hx⟩ := zcat_conc u hc
      exact g2 x e hx
    · exact Or.inl e
theorem zst1_val {lo : Lo} (h : ∀ i v, zget lo i = some v → zVal v) {k : Nat} {v : ZV} (hv : zVal v) : ∀ i u, zget (zst1 lo k v) i = some u → zVal u := by
  intro i u hu
  rcases zget_zset _ _ _ _ _ hu with ⟨h1, h2⟩ | ⟨h1, h2⟩
  · cases h2; exact hv
  · exact h i u (zget_zkill h2).1
theorem zst2_val {lo : Lo} (h : ∀ i v, zget lo i = some v → zVal v) {k : Nat} {v : ZV} (hv : zVal v) : ∀ i u, zget (zst2 lo k v) i = some u → zVal u := by
  intro i u hu
  rcases zget_zset _ _ _ _ _ hu with ⟨h1, h2⟩ | ⟨h0, h3⟩
  · cases h2
  rcases zget_zset _ _ _ _ _ h3 with ⟨h1, h2⟩ | ⟨h1, h2⟩
  · cases h2; exact hv
  · exact h i u (zget_zkill h2).1
theorem zget_mask : ∀ (ms : List Bool) (lo : Lo) (i : Nat) (u : ZV), zget (zmask ms lo) i = some u → zget lo i = some u
  | [], _, _, _, h => by cases h
  | b :: bs, [], i, _, h => by cases h
  | b :: bs, v :: l, 0, u, h => by
    cases b
    · cases h
    · exact h
  | b :: bs, v :: l, i + 1, u, h => zget_mask bs l i u h
theorem zLH.at {ad : Nat → Nat → Nat} {ls : Array Slot} {nL : Nat} {lo : Lo} (h : zLH ad ls nL lo) {i : Nat} {v : ZV} (hv : zget lo i = some v) : ls[i]? = some (.val (zconc ad v)) := by
  obtain ⟨l, h1, h2⟩ := h
  exact h1.2.2 _ (h2 i v hv)
theorem zLH.mask {ad : Nat → Nat → Nat} {ls : Array Slot} {nL : Nat} {lo : Lo} (h : zLH ad ls nL lo) (ms : List Bool) : zLH ad ls nL (zmask ms lo) := by
  obtain ⟨l, h1, h2⟩ := h
  exact ⟨l, h1, fun i v hv => h2 i v (zget_mask _ _ _ _ hv)⟩
/-! what the combinators say, backwards -/
section INV
variable {ρ : Type} {X : ρ}
theorem pI_inv {st : List ZV} {f : Int32 → List ZV → Option ρ} (h : pI st f = some X) : ∃ x r, st = zi x :: r ∧ f x r = some X := by
  unfold pI at h; split at h
  · exact ⟨_, _, rfl, h⟩
  · cases h
theorem pL_inv {st : List ZV} {f : Int64 → List ZV → Option ρ} (h : pL st f = some X) : ∃ x r, st = zl x :: r ∧ f x r = some X := by
  unfold pL at h; split at h
  · exact ⟨_, _, rfl, h⟩
  · cases h
theorem pR_inv {st : List ZV} {f : Nat → Nat → List ZV → Option ρ} (h : pR st f = some X) : ∃ t i r, st = zr t i :: r ∧ f t i r = some X := by
  unfold pR at h; split at h
  · exact ⟨_, _, _, rfl, h⟩
  · cases h
theorem pE_inv {st : List ZV} {f : Option ρ} (h : pE st f = some X) : st = [] ∧ f = some X := by
  unfold pE at h; split at h
  · exact ⟨rfl, h⟩
  · cases h
theorem gI_inv {lo : Lo} {k : Nat} {f : Int32 → Option ρ} (h : gI lo k f = some X) : ∃ x, zget lo k = some (zi x) ∧ f x = some X := by
  unfold gI at h; split at h
  · exact ⟨_, by assumption, h⟩
  · cases h
theorem gL_inv {lo : Lo} {k : Nat} {f : Int64 → Option ρ} (h : gL lo k f = some X) : ∃ x, zget lo k = some (zl x) ∧ f x = some X := by
  unfold gL at h; split at h
  · exact ⟨_, by assumption, h⟩
  · cases h
theorem gR_inv {lo : Lo} {k : Nat} {f : Nat → Nat → Option ρ} (h : gR lo k f = some X) : ∃ t i, zget lo k = some (zr t i) ∧ f t i = some X := by
  unfold gR at h; split at h
  · exact ⟨_, _, by assumption, h⟩
  · cases h
theorem oB_inv {α : Type} {o : Option α} {f : α → Option ρ} (h : oB o f = some X) : ∃ a, o = some a ∧ f a = some X := by
  unfold oB at h; split at h
  · exact ⟨_, rfl, h⟩
  · cases h
theorem zif_inv {b : Bool} {f : Option ρ} (h : zif b f = some X) : b = true ∧ f = some X := by
  unfold zif at h; split at h
  · exact ⟨rfl, h⟩
  · cases h
theorem chk_inv {x : Int32} {n : Nat} {f : Option ρ} (h : chk x n f = some X) : vp_in x n ∧ f = some X := by
  unfold chk at h; split at h
  · cases h
  · exact ⟨by assumption, h⟩
theorem zb_inv {x : Int32} {f : Option ρ} (h : zb x f = some X) : (x = 0 ∨ x = 1) ∧ f = some X := by
  unfold zb at h; split at h
  · exact ⟨by assumption, h⟩
  · cases h
theorem zpop_inv {f : List ZV → List ZV → Option ρ} : ∀ (n : Nat) (st acc : List ZV), zpop n st acc f = some X → ∃ as r, st = as.reverse ++ r ∧ as.length = n ∧ f (as ++ acc) r = some X
  | 0, st, acc, h => ⟨[], st, rfl, rfl, h⟩
  | n + 1, [], acc, h => by cases h
  | n + 1, v :: st, acc, h => by
    obtain ⟨as, r, h1, h2, h3⟩ := zpop_inv n st (v :: acc) h
    exact ⟨as ++ [v], r, by simp [h1], by simp [h2], by simpa using h3⟩
end INV
theorem zop_mem {α : Type} : ∀ {l : List (Nat × α)} {k : Nat} {a : α}, zop l k = some a → (k, a) ∈ l
  | [], _, _, h => by cases h
  | p :: r, k, a, h => by
    unfold zop at h
    cases hb : Nat.beq p.1 k with
    | true =>
      rw [hb] at h
      have e := Nat.eq_of_beq_eq_true hb
      subst e
      simp only [cond_true, Option.some.injEq] at h
      subst h
      exact List.mem_cons_self
    | false =>
      rw [hb] at h
      exact List.mem_cons_of_mem _ (zop_mem h)
theorem zn_get {α : Type} : ∀ {l : List α} {k : Nat} {a : α}, zn l k = some a → l[k]? = some a
  | [], _, _, h => by cases h
  | b :: l, 0, a, h => by simpa [zn] using h
  | b :: l, k + 1, a, h => by
    have := zn_get (l := l) (k := k) (a := a) h
    simpa using this
theorem zvals_get (t i : Nat) (w : Wd) : ∀ (l : List (Nat × Nat × Nat)) (k0 k : Nat) (q : Nat × Nat × Nat), l[k]? = some q → (zvals t i w k0 l)[k]? = some (zval q t i (k0 + k) w)
  | [], _, _, _, h => by simp at h
  | p :: r, k0, 0, q, h => by
    simp at h
    subst h
    simp [zvals]
  | p :: r, k0, k + 1, q, h => by
    have h1 : r[k]? = some q := by simpa using h
    have := zvals_get t i w r (k0 + 1) k q h1
    rw [show k0 + (k + 1) = k0 + 1 + k by omega]
    simpa [zvals] using this
theorem zvals_len (t i : Nat) (w : Wd) : ∀ (l : List (Nat × Nat × Nat)) (k0 : Nat), (zvals t i w k0 l).length = l.length
  | [], _ => rfl
  | p :: r, k0 => by simp [zvals, zvals_len t i w r]
