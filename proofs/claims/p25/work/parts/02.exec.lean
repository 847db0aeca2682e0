/-! THE EXECUTOR: methods as data, run over a world whose cells have fixed places (tag, number). Nothing here speaks of the machine. -/
abbrev ZV : Type := Int32 ⊕ (Int64 ⊕ (Nat × Nat))
abbrev Wd : Type := (Nat → Nat → Nat → Int32) × (Nat → Nat → Nat → Int64)
abbrev Lo : Type := List (Option ZV)
abbrev zi (x : Int32) : ZV := Sum.inl x
abbrev zl (x : Int64) : ZV := Sum.inr (Sum.inl x)
abbrev zr (t i : Nat) : ZV := Sum.inr (Sum.inr (t, i))
def zget : Lo → Nat → Option ZV
  | [], _ => none
  | a :: _, 0 => a
  | _ :: l, n + 1 => zget l n
def zset : Lo → Nat → Option ZV → Lo
  | [], _, _ => []
  | _ :: l, 0, v => v :: l
  | a :: l, n + 1, v => a :: zset l n v
def zkill (lo : Lo) : Nat → Lo
  | 0 => lo
  | j + 1 => match zget lo j with
    | some (Sum.inr (Sum.inl _)) => zset lo j none
    | _ => lo
def zst1 (lo : Lo) (i : Nat) (v : ZV) : Lo := zset (zkill lo i) i (some v)
def zst2 (lo : Lo) (i : Nat) (v : ZV) : Lo := zset (zset (zkill lo i) i (some v)) (i + 1) none
def zmask : List Bool → Lo → Lo
  | [], _ => []
  | _, [] => []
  | b :: bs, v :: l => (bif b then v else none) :: zmask bs l
def wI (w : Wd) (t i j : Nat) (x : Int32) : Wd := (fun a b c => if a = t ∧ b = i ∧ c = j then x else w.1 a b c, w.2)
def wL (w : Wd) (t i j : Nat) (x : Int64) : Wd := (w.1, fun a b c => if a = t ∧ b = i ∧ c = j then x else w.2 a b c)
/-- a run of ints of one row into another -/
def wC (w : Wd) (t0 i0 sp t1 i1 dp n : Nat) : Wd := (fun a b c => if a = t1 ∧ b = i1 ∧ dp ≤ c ∧ c < dp + n then w.1 t0 i0 (sp + (c - dp)) else w.1 a b c, w.2)
def zop {α : Type} : List (Nat × α) → Nat → Option α
  | [], _ => none
  | p :: r, k => bif Nat.beq p.1 k then some p.2 else zop r k
def zn {α : Type} : List α → Nat → Option α
  | [], _ => none
  | a :: _, 0 => some a
  | _ :: l, n + 1 => zn l n
/-- how many cells of a tag -/
def zC : List (Nat × Nat) := [(0, 1), (1, 1), (2, 11), (3, 13), (4, 1), (5, 1), (6, 9), (7, 1), (10, 1), (11, 11), (12, 11), (13, 13), (14, 2), (15, 1), (16, 1), (17, 3), (18, 1), (19, 1), (20, 1), (21, 1), (22, 1), (30, 1), (50, 1)]
def zcnt (t : Nat) : Nat := match zop zC t with
  | some n => n
  | none => 0
/-- the rows: kind (1 int, 2 boolean, 3 long, 4 State, 5 the script), length -/
def zR : List (Nat × (Nat × (Nat → Wd → Nat))) := [(10, 1, fun _ _ => 40), (11, 1, fun _ _ => 24), (12, 1, fun _ _ => 4), (13, 1, fun _ _ => 24), (14, 1, fun i _ => if i = 0 then 4 else 4096), (15, 1, fun _ _ => 96), (16, 1, fun _ _ => 24), (17, 3, fun i _ => if i = 2 then 65536 else 4096), (18, 1, fun _ _ => 32), (19, 2, fun _ _ => 4096), (20, 4, fun _ _ => 6), (21, 4, fun _ _ => 2), (22, 2, fun _ _ => 2), (30, 1, fun _ _ => 60), (50, 5, fun _ w => (w.1 51 0 0).toNatClampNeg)]
def zkd (t : Nat) : Nat := match zop zR t with
  | some q => q.1
  | none => 0
def zlen (t i : Nat) (w : Wd) : Nat := match zop zR t with
  | some q => q.2 i w
  | none => 0
/-- fields: 0 int, 1 boolean, 2 long, 3 a cell of a fixed number, 4 a cell of the same number -/
def zF : List (Nat × List (Nat × Nat × Nat)) := [
  (0, [(3, 20, 0), (0, 0, 0), (0, 0, 0)]),
  (1, [(3, 10, 0), (0, 0, 0)]),
  (2, [(4, 11, 0), (4, 12, 0)]),
  (3, [(4, 13, 0), (0, 0, 0)]),
  (4, [(3, 14, 0), (3, 15, 0), (3, 16, 0), (0, 0, 0), (0, 0, 0), (3, 17, 0)]),
  (5, [(3, 2, 10), (1, 0, 0), (3, 18, 0), (3, 14, 1), (3, 17, 1), (1, 0, 0), (3, 17, 2), (2, 0, 0), (2, 0, 0), (0, 0, 0), (3, 19, 0), (3, 3, 12)]),
  (6, [(4, 2, 0), (4, 3, 0)]),
  (7, [(3, 1, 0), (3, 6, 0), (3, 0, 0), (3, 21, 0), (3, 22, 0), (3, 2, 9), (3, 5, 0), (3, 4, 0), (3, 3, 9), (3, 3, 10), (3, 3, 11)])]
def zfs (t : Nat) : List (Nat × Nat × Nat) := match zop zF t with
  | some l => l
  | none => []
def zval (q : Nat × Nat × Nat) (t i k : Nat) (w : Wd) : ZV :=
  bif Nat.beq q.1 3 then zr q.2.1 q.2.2 else bif Nat.beq q.1 4 then zr q.2.1 i else bif Nat.beq q.1 2 then zl (w.2 t i k) else zi (w.1 t i k)
def zvals (t i : Nat) (w : Wd) : Nat → List (Nat × Nat × Nat) → List ZV
  | _, [] => []
  | k, q :: r => zval q t i k w :: zvals t i w (k + 1) r
section EX
variable {ρ : Type}
abbrev ZJ (ρ : Type) : Type := Nat → List ZV → Lo → Wd → Option ρ
abbrev ZCall (ρ : Type) : Type := List ZV → Wd → (Option ZV → Wd → Option ρ) → Option ρ
abbrev ZRow : Type := Instr × Nat × Nat × List (Int × Nat)
def pI (st : List ZV) (f : Int32 → List ZV → Option ρ) : Option ρ := match st with
  | Sum.inl x :: r => f x r
  | _ => none
def pL (st : List ZV) (f : Int64 → List ZV → Option ρ) : Option ρ := match st with
  | Sum.inr (Sum.inl x) :: r => f x r
  | _ => none
def pR (st : List ZV) (f : Nat → Nat → List ZV → Option ρ) : Option ρ := match st with
  | Sum.inr (Sum.inr q) :: r => f q.1 q.2 r
  | _ => none
def pE (st : List ZV) (f : Option ρ) : Option ρ := match st with
  | [] => f
  | _ => none
def gI (lo : Lo) (k : Nat) (f : Int32 → Option ρ) : Option ρ := match zget lo k with
  | some (Sum.inl x) => f x
  | _ => none
def gL (lo : Lo) (k : Nat) (f : Int64 → Option ρ) : Option ρ := match zget lo k with
  | some (Sum.inr (Sum.inl x)) => f x
  | _ => none
def gR (lo : Lo) (k : Nat) (f : Nat → Nat → Option ρ) : Option ρ := match zget lo k with
  | some (Sum.inr (Sum.inr q)) => f q.1 q.2
  | _ => none
def oB {α : Type} (o : Option α) (f : α → Option ρ) : Option ρ := match o with
  | some a => f a
  | none => none
/-- a call's answer -/
def oC {α : Type} (o : Option α) (f : α → Option ρ) : Option ρ := match o with
  | some a => f a
  | none => none
def zif (b : Bool) (f : Option ρ) : Option ρ := match b with
  | true => f
  | false => none
/-- the index is in range -/
def chk (x : Int32) (n : Nat) (f : Option ρ) : Option ρ := if x < 0 ∨ n ≤ x.toNatClampNeg then none else f
/-- 0 or 1 -/
def zb (x : Int32) (f : Option ρ) : Option ρ := if x = 0 ∨ x = 1 then f else none
def zsw (x : Int32) (d : Option ρ) (J : Nat → Option ρ) : List (Int × Nat) → Option ρ
  | [] => d
  | p :: r => if x = Int32.ofInt p.1 then J p.2 else zsw x d J r
def zcat : List ZV → Nat
  | [] => 0
  | Sum.inr (Sum.inl _) :: r => 2 + zcat r
  | _ :: r => 1 + zcat r
def zpop : Nat → List ZV → List ZV → (List ZV → List ZV → Option ρ) → Option ρ
  | 0, st, acc, f => f acc st
  | n + 1, v :: st, acc, f => zpop n st (v :: acc) f
  | _ + 1, [], _, _ => none
def zic (c : Jvm.ClassFile.Cond) (x y : Int32) (a b : Option ρ) : Option ρ := match c with
  | .eq => if x = y then a else b
  | .ne => if x = y then b else a
  | .lt => if x < y then a else b
  | .ge => if y ≤ x then a else b
  | .gt => if y < x then a else b
  | .le => if x ≤ y then a else b
def zif0 (c : Jvm.ClassFile.Cond) (x : Int32) (a b : Option ρ) : Option ρ := match c with
  | .eq => if x = 0 then a else b
  | .ne => if x = 0 then b else a
  | .lt => if x < 0 then a else b
  | .ge => if 0 ≤ x then a else b
  | .gt => if 0 < x then a else b
  | .le => if x ≤ 0 then a else b
def zinv (cM : List (Nat × Nat × ZCall ρ)) (k : Nat) (st : List ZV) (lo : Lo) (w : Wd) (K : List ZV → Lo → Wd → Option ρ) : Option ρ :=
  oB (zop cM k) fun e => zpop e.1 st [] fun as r => zif (Nat.ble (zcat r) 8) (e.2 as w fun v w' => K (v.toList ++ r) lo w')
def zgf (cF : List (Nat × Nat × Nat)) (k : Nat) (st : List ZV) (lo : Lo) (w : Wd) (K : List ZV → Lo → Wd → Option ρ) : Option ρ :=
  pR st fun t i r => oB (zop cF k) fun e => zif (Nat.beq t e.1) (oB (zn (zfs t) e.2) fun q => K (zval q t i e.2 w :: r) lo w)
def zpf (cF : List (Nat × Nat × Nat)) (k : Nat) (st : List ZV) (lo : Lo) (w : Wd) (K : List ZV → Lo → Wd → Option ρ) : Option ρ := match st with
  | Sum.inl x :: r => pR r fun t i r => oB (zop cF k) fun e => zif (Nat.beq t e.1) (oB (zn (zfs t) e.2) fun q => match q.1 with
    | 0 => K r lo (wI w t i e.2 x)
    | 1 => zb x (K r lo (wI w t i e.2 x))
    | _ => none)
  | Sum.inr (Sum.inl x) :: r => pR r fun t i r => oB (zop cF k) fun e => zif (Nat.beq t e.1) (oB (zn (zfs t) e.2) fun q => match q.1 with
    | 2 => K r lo (wL w t i e.2 x)
    | _ => none)
  | _ => none
def zdup (st : List ZV) (K : List ZV → Option ρ) : Option ρ := match st with
  | Sum.inl x :: r => K (zi x :: zi x :: r)
  | Sum.inr (Sum.inr q) :: r => K (zr q.1 q.2 :: zr q.1 q.2 :: r)
  | _ => none
def zstp (cF : List (Nat × Nat × Nat)) (cL : List (Nat × Int64)) (cM : List (Nat × Nat × ZCall ρ)) (ret : Option ZV → Wd → Option ρ) (i : Instr) (tgt : Nat) (sw : List (Int × Nat)) (st : List ZV) (lo : Lo) (w : Wd) (K : List ZV → Lo → Wd → Option ρ) (J : ZJ ρ) : Option ρ := match i with
  | .iconst n => K (zi (Int32.ofInt n) :: st) lo w
  | .bipush n => K (zi (Int32.ofInt n) :: st) lo w
  | .sipush n => K (zi (Int32.ofInt n) :: st) lo w
  | .lconst n => K (zl (Int64.ofInt (n.val : Nat)) :: st) lo w
  | .ldc2_w k => oB (zop cL (2 * k)) fun v => K (zl v :: st) lo w
  | .ldc k => oB (zop cL (2 * k + 1)) fun v => K (zi v.toInt32 :: st) lo w
  | .iload k => gI lo k fun x => K (zi x :: st) lo w
  | .iload_n k => gI lo k.val fun x => K (zi x :: st) lo w
  | .lload k => gL lo k fun x => K (zl x :: st) lo w
  | .lload_n k => gL lo k.val fun x => K (zl x :: st) lo w
  | .aload k => gR lo k fun t i => K (zr t i :: st) lo w
  | .aload_n k => gR lo k.val fun t i => K (zr t i :: st) lo w
  | .istore k => pI st fun x r => K r (zst1 lo k (zi x)) w
  | .istore_n k => pI st fun x r => K r (zst1 lo k.val (zi x)) w
  | .lstore k => pL st fun x r => K r (zst2 lo k (zl x)) w
  | .lstore_n k => pL st fun x r => K r (zst2 lo k.val (zl x)) w
  | .astore k => pR st fun t i r => K r (zst1 lo k (zr t i)) w
  | .astore_n k => pR st fun t i r => K r (zst1 lo k.val (zr t i)) w
  | .iinc k n => gI lo k fun x => K st (zst1 lo k (zi (x + Int32.ofInt n))) w
  | .iadd => pI st fun y r => pI r fun x r => K (zi (x + y) :: r) lo w
  | .isub => pI st fun y r => pI r fun x r => K (zi (x - y) :: r) lo w
  | .imul => pI st fun y r => pI r fun x r => K (zi (x * y) :: r) lo w
  | .iand => pI st fun y r => pI r fun x r => K (zi (x &&& y) :: r) lo w
  | .ior => pI st fun y r => pI r fun x r => K (zi (x ||| y) :: r) lo w
  | .ixor => pI st fun y r => pI r fun x r => K (zi (x ^^^ y) :: r) lo w
  | .idiv => pI st fun y r => pI r fun x r => if y = 0 then none else K (zi (x / y) :: r) lo w
  | .irem => pI st fun y r => pI r fun x r => if y = 0 then none else K (zi (x - x / y * y) :: r) lo w
  | .ishl => pI st fun y r => pI r fun x r => K (zi (x <<< (y &&& 31)) :: r) lo w
  | .ishr => pI st fun y r => pI r fun x r => K (zi (x >>> (y &&& 31)) :: r) lo w
  | .ladd => pL st fun y r => pL r fun x r => K (zl (x + y) :: r) lo w
  | .lsub => pL st fun y r => pL r fun x r => K (zl (x - y) :: r) lo w
  | .lmul => pL st fun y r => pL r fun x r => K (zl (x * y) :: r) lo w
  | .land => pL st fun y r => pL r fun x r => K (zl (x &&& y) :: r) lo w
  | .lor => pL st fun y r => pL r fun x r => K (zl (x ||| y) :: r) lo w
  | .lushr => pI st fun y r => pL r fun x r => K (zl (x.toUInt64 >>> (y.toInt64.toUInt64 &&& Int64.toUInt64 63)).toInt64 :: r) lo w
  | .lshl => pI st fun y r => pL r fun x r => K (zl (x <<< (y.toInt64 &&& 63)) :: r) lo w
  | .lcmp => pL st fun y r => pL r fun x r => K (zi (lg_cmp x y) :: r) lo w
  | .i2l => pI st fun x r => K (zl x.toInt64 :: r) lo w
  | .l2i => pL st fun x r => K (zi x.toInt32 :: r) lo w
  | .dup => zdup st fun r => K r lo w
  | .dup2 => pI st fun x r => pR r fun t i r => K (zi x :: zr t i :: zi x :: zr t i :: r) lo w
  | .goto _ => J tgt st lo w
  | .ifCond c _ => pI st fun x r => zif0 c x (J tgt r lo w) (K r lo w)
  | .if_icmp c _ => pI st fun y r => pI r fun x r => zic c x y (J tgt r lo w) (K r lo w)
  | .tableswitch _ _ _ _ => pI st fun x r => zsw x (J tgt r lo w) (fun t => J t r lo w) sw
  | .lookupswitch _ _ => pI st fun x r => zsw x (J tgt r lo w) (fun t => J t r lo w) sw
  | .getfield k => zgf cF k st lo w K
  | .putfield k => zpf cF k st lo w K
  | .iaload => pI st fun x r => pR r fun t i r => zif (Nat.beq (zkd t) 1 || Nat.beq (zkd t) 5) (chk x (zlen t i w) (K (zi (w.1 t i x.toNatClampNeg) :: r) lo w))
  | .baload => pI st fun x r => pR r fun t i r => zif (Nat.beq (zkd t) 2) (chk x (zlen t i w) (K (zi (w.1 t i x.toNatClampNeg) :: r) lo w))
  | .laload => pI st fun x r => pR r fun t i r => zif (Nat.beq (zkd t) 3) (chk x (zlen t i w) (K (zl (w.2 t i x.toNatClampNeg) :: r) lo w))
  | .aaload => pI st fun x r => pR r fun t i r => match Nat.beq t 20 with
    | true => chk x 6 (K (zr 6 (1 + x.toNatClampNeg) :: r) lo w)
    | false => zif (Nat.beq t 21) (chk x 2 (K (zr 6 (7 + x.toNatClampNeg) :: r) lo w))
  | .iastore => pI st fun x r => pI r fun j r => pR r fun t i r => zif (Nat.beq (zkd t) 1) (chk j (zlen t i w) (K r lo (wI w t i j.toNatClampNeg x)))
  | .bastore => pI st fun x r => pI r fun j r => pR r fun t i r => zif (Nat.beq (zkd t) 2) (chk j (zlen t i w) (zb x (K r lo (wI w t i j.toNatClampNeg x))))
  | .lastore => pL st fun x r => pI r fun j r => pR r fun t i r => zif (Nat.beq (zkd t) 3) (chk j (zlen t i w) (K r lo (wL w t i j.toNatClampNeg x)))
  | .arraylength => pR st fun t i r => zif (Nat.beq (zkd t) 1 || Nat.beq (zkd t) 3 || Nat.beq (zkd t) 5) (K (zi (Int32.ofNat (zlen t i w)) :: r) lo w)
  | .invokevirtual k => zinv cM (2 * k) st lo w K
  | .invokestatic k => zinv cM (2 * k + 1) st lo w K
  | .ireturn => pI st fun x r => pE r (ret (some (zi x)) w)
  | .lreturn => pL st fun x r => pE r (ret (some (zl x)) w)
  | .areturn => pR st fun t i r => pE r (ret (some (zr t i)) w)
  | .return_ => pE st (ret none w)
  | _ => none
def zrun (cF : List (Nat × Nat × Nat)) (cL : List (Nat × Int64)) (cM : List (Nat × Nat × ZCall ρ)) (ret : Option ZV → Wd → Option ρ) (J : ZJ ρ) : List ZRow → Nat → List ZV → Lo → Wd → Option ρ
  | [], pc, st, lo, w => J pc st lo w
  | r :: rs, pc, st, lo, w => zstp cF cL cM ret r.1 r.2.2.1 r.2.2.2 st lo w (fun st lo w => zrun cF cL cM ret J rs (pc + r.2.1) st lo w) J
abbrev ZBl : Type := List (Nat × Option (List Bool) × List ZRow)
def zex (cF : List (Nat × Nat × Nat)) (cL : List (Nat × Int64)) (bl : ZBl) (cM : List (Nat × Nat × ZCall ρ)) (ret : Option ZV → Wd → Option ρ) (J : ZJ ρ) : Nat → ZJ ρ
  | 0, _, _, _, _ => none
  | k + 1, pc, st, lo, w => oB (zop bl pc) fun b => zrun cF cL cM ret (fun pc st lo w => oB (zop bl pc) fun b => match b.1 with
    | some ms => J pc st (zmask ms lo) w
    | none => zex cF cL bl cM ret J k pc st lo w) b.2 pc st lo w
def zeN (cF : List (Nat × Nat × Nat)) (cL : List (Nat × Int64)) (bl : ZBl) (cM : List (Nat × Nat × ZCall ρ)) (ret : Option ZV → Wd → Option ρ) : Nat → ZJ ρ
  | 0, _, _, _, _ => none
  | n + 1, pc, st, lo, w => zex cF cL bl cM ret (zeN cF cL bl cM ret n) 400 pc st lo w
noncomputable def zev (cF : List (Nat × Nat × Nat)) (cL : List (Nat × Int64)) (bl : ZBl) (cM : List (Nat × Nat × ZCall ρ)) (ret : Option ZV → Wd → Option ρ) : ZJ ρ := fun pc st lo w =>
  @dite _ (∃ (X : ρ) (n : Nat), zeN cF cL bl cM ret n pc st lo w = some X) (Classical.propDecidable _) (fun h => some (Classical.choose h)) (fun _ => none)
/-! an answer comes from one jump, or from none -/
def Lf (F : ZJ ρ → Option ρ) : Prop := ∀ (J : ZJ ρ) (X : ρ), F J = some X → (∀ J', F J' = some X) ∨ ∃ pc st lo w, J pc st lo w = some X ∧ ∀ J', J' pc st lo w = some X → F J' = some X
def LfC (F : ZCall ρ) : Prop := ∀ as w K X, F as w K = some X → ∃ v w', K v w' = some X ∧ ∀ K', K' v w' = some X → F as w K' = some X
theorem lf_k (o : Option ρ) : Lf (fun _ => o) := fun _ _ h => Or.inl fun _ => h
theorem lf_j (pc : Nat) (st : List ZV) (lo : Lo) (w : Wd) : Lf (fun J : ZJ ρ => J pc st lo w) := fun _ _ h => Or.inr ⟨pc, st, lo, w, h, fun _ h' => h'⟩
theorem lf_ite {c : Prop} [Decidable c] {F G : ZJ ρ → Option ρ} (hF : Lf F) (hG : Lf G) : Lf (fun J => if c then F J else G J) := by
  intro J X h
  by_cases hc : c
  · simp only [if_pos hc] at h ⊢
    exact hF J X h
  · simp only [if_neg hc] at h ⊢
    exact hG J X h
theorem lf_pI {st : List ZV} {F : ZJ ρ → Int32 → List ZV → Option ρ} (h : ∀ x r, Lf (fun J => F J x r)) : Lf (fun J => pI st (F J)) := by
  unfold pI; split
  · exact h _ _
  · exact lf_k none
theorem lf_pL {st : List ZV} {F : ZJ ρ → Int64 → List ZV → Option ρ} (h : ∀ x r, Lf (fun J => F J x r)) : Lf (fun J => pL st (F J)) := by
  unfold pL; split
  · exact h _ _
  · exact lf_k none
theorem lf_pR {st : List ZV} {F : ZJ ρ → Nat → Nat → List ZV → Option ρ} (h : ∀ x y r, Lf (fun J => F J x y r)) : Lf (fun J => pR st (F J)) := by
  unfold pR; split
  · exact h _ _ _
  · exact lf_k none
theorem lf_pE {st : List ZV} {F : ZJ ρ → Option ρ} (h : Lf F) : Lf (fun J => pE st (F J)) := by
  unfold pE; split
  · exact h
  · exact lf_k none
theorem lf_gI {lo : Lo} {k : Nat} {F : ZJ ρ → Int32 → Option ρ} (h : ∀ x, Lf (fun J => F J x)) : Lf (fun J => gI lo k (F J)) := by
  unfold gI; split
  · exact h _
  · exact lf_k none
theorem lf_gL {lo : Lo} {k : Nat} {F : ZJ ρ → Int64 → Option ρ} (h : ∀ x, Lf (fun J => F J x)) : Lf (fun J => gL lo k (F J)) := by
  unfold gL; split
  · exact h _
  · exact lf_k none
theorem lf_gR {lo : Lo} {k : Nat} {F : ZJ ρ → Nat → Nat → Option ρ} (h : ∀ x y, Lf (fun J => F J x y)) : Lf (fun J => gR lo k (F J)) := by
  unfold gR; split
  · exact h _ _
  · exact lf_k none
theorem lf_oB {α : Type} {o : Option α} {F : ZJ ρ → α → Option ρ} (h : ∀ x, Lf (fun J => F J x)) : Lf (fun J => oB o (F J)) := by
  unfold oB; split
  · exact h _
  · exact lf_k none
theorem lf_zif {b : Bool} {F : ZJ ρ → Option ρ} (h : Lf F) : Lf (fun J => zif b (F J)) := by
  unfold zif; split
  · exact h
  · exact lf_k none
theorem lf_chk {x : Int32} {n : Nat} {F : ZJ ρ → Option ρ} (h : Lf F) : Lf (fun J => chk x n (F J)) := lf_ite (lf_k none) h
theorem lf_zb {x : Int32} {F : ZJ ρ → Option ρ} (h : Lf F) : Lf (fun J => zb x (F J)) := lf_ite h (lf_k none)
theorem lf_zsw {x : Int32} {r : List ZV} {lo : Lo} {w : Wd} {d : Nat} : ∀ sw : List (Int × Nat), Lf (fun J : ZJ ρ => zsw x (J d r lo w) (fun t => J t r lo w) sw)
  | [] => lf_j _ _ _ _
  | _ :: sw => lf_ite (lf_j _ _ _ _) (lf_zsw sw)
theorem lf_zic {c : Jvm.ClassFile.Cond} {x y : Int32} {F G : ZJ ρ → Option ρ} (hF : Lf F) (hG : Lf G) : Lf (fun J => zic c x y (F J) (G J)) := by
  cases c <;> first | exact lf_ite hF hG | exact lf_ite hG hF
theorem lf_zif0 {c : Jvm.ClassFile.Cond} {x : Int32} {F G : ZJ ρ → Option ρ} (hF : Lf F) (hG : Lf G) : Lf (fun J => zif0 c x (F J) (G J)) := by
  cases c <;> first | exact lf_ite hF hG | exact lf_ite hG hF
theorem lf_zpop {F : ZJ ρ → List ZV → List ZV → Option ρ} (h : ∀ a r, Lf (fun J => F J a r)) : ∀ (n : Nat) (st acc : List ZV), Lf (fun J => zpop n st acc (F J))
  | 0, _, _ => h _ _
  | n + 1, v :: st, acc => lf_zpop h n st (v :: acc)
  | _ + 1, [], _ => lf_k none
theorem lf_call {C : ZCall ρ} (hC : LfC C) {as : List ZV} {w : Wd} {F : ZJ ρ → Option ZV → Wd → Option ρ} (h : ∀ v w', Lf (fun J => F J v w')) : Lf (fun J => C as w (F J)) := by
  intro J X hX
  obtain ⟨v, w', h1, h2⟩ := hC _ _ _ _ hX
  rcases h v w' J X h1 with g | ⟨pc, st, lo, w1, g1, g2⟩
  · exact Or.inl fun J' => h2 _ (g J')
  · exact Or.inr ⟨pc, st, lo, w1, g1, fun J' h' => h2 _ (g2 J' h')⟩
def LfM (cM : List (Nat × Nat × ZCall ρ)) : Prop := ∀ (k : Nat) (e : Nat × ZCall ρ), zop cM k = some e → LfC e.2
theorem lf_zinv {cM : List (Nat × Nat × ZCall ρ)} (hM : LfM cM) {k : Nat} {st : List ZV} {lo : Lo} {w : Wd} {F : ZJ ρ → List ZV → Lo → Wd → Option ρ} (h : ∀ st lo w, Lf (fun J => F J st lo w)) : Lf (fun J => zinv cM k st lo w (F J)) := by
  unfold zinv oB
  split
  · rename_i e he
    exact lf_zpop (fun a r => lf_zif (lf_call (hM k e he) fun v w' => h _ _ _)) _ _ _
  · exact lf_k none
theorem lf_zgf {cF : List (Nat × Nat × Nat)} {k : Nat} {st : List ZV} {lo : Lo} {w : Wd} {F : ZJ ρ → List ZV → Lo → Wd → Option ρ} (h : ∀ st lo w, Lf (fun J => F J st lo w)) : Lf (fun J => zgf cF k st lo w (F J)) :=
  lf_pR fun _ _ _ => lf_oB fun _ => lf_zif (lf_oB fun _ => h _ _ _)
theorem lf_zpf {cF : List (Nat × Nat × Nat)} {k : Nat} {st : List ZV} {lo : Lo} {w : Wd} {F : ZJ ρ → List ZV → Lo → Wd → Option ρ} (h : ∀ st lo w, Lf (fun J => F J st lo w)) : Lf (fun J => zpf cF k st lo w (F J)) := by
  unfold zpf
  split
  · refine lf_pR fun _ _ _ => lf_oB fun _ => lf_zif (lf_oB fun q => ?_)
    split
    · exact h _ _ _
    · exact lf_zb (h _ _ _)
    · exact lf_k none
  · refine lf_pR fun _ _ _ => lf_oB fun _ => lf_zif (lf_oB fun q => ?_)
    split
    · exact h _ _ _
    · exact lf_k none
  · exact lf_k none
theorem lf_zdup {st : List ZV} {F : ZJ ρ → List ZV → Option ρ} (h : ∀ st, Lf (fun J => F J st)) : Lf (fun J => zdup st (F J)) := by
  unfold zdup; split
  · exact h _
  · exact h _
  · exact lf_k none
set_option maxHeartbeats 4000000 in
theorem lf_zstp {cF : List (Nat × Nat × Nat)} {cL : List (Nat × Int64)} {cM : List (Nat × Nat × ZCall ρ)} (hM : LfM cM) {ret : Option ZV → Wd → Option ρ} {i : Instr} {tgt : Nat} {sw : List (Int × Nat)} {st : List ZV} {lo : Lo} {w : Wd} {F : ZJ ρ → List ZV → Lo → Wd → Option ρ} (h : ∀ st lo w, Lf (fun J => F J st lo w)) : Lf (fun J => zstp cF cL cM ret i tgt sw st lo w (F J) J) := by
  cases i
  case aload k => exact lf_gR (F := fun J t i => F J (zr t i :: st) lo w) fun _ _ => h _ _ _
  case aload_n k => exact lf_gR (F := fun J t i => F J (zr t i :: st) lo w) fun _ _ => h _ _ _
  case astore k => exact lf_pR (F := fun J t i r => F J r (zst1 lo k (zr t i)) w) fun _ _ _ => h _ _ _
  case astore_n k => exact lf_pR (F := fun J t i r => F J r (zst1 lo k.val (zr t i)) w) fun _ _ _ => h _ _ _
  case aaload =>
    refine lf_pI fun x r => lf_pR (F := fun J t i r => match Nat.beq t 20 with
      | true => chk x 6 (F J (zr 6 (1 + x.toNatClampNeg) :: r) lo w)
      | false => zif (Nat.beq t 21) (chk x 2 (F J (zr 6 (7 + x.toNatClampNeg) :: r) lo w))) fun t i r => ?_
    cases Nat.beq t 20
    · exact lf_zif (lf_chk (h _ _ _))
    · exact lf_chk (h _ _ _)
  case dup => exact lf_zdup (F := fun J r => F J r lo w) fun _ => h _ _ _
  case areturn => exact lf_pR (F := fun _ t i r => pE r (ret (some (zr t i)) w)) fun _ _ _ => lf_pE (lf_k _)
  case arraylength => exact lf_pR (F := fun J t i r => zif (Nat.beq (zkd t) 1 || Nat.beq (zkd t) 3 || Nat.beq (zkd t) 5) (F J (zi (Int32.ofNat (zlen t i w)) :: r) lo w)) fun _ _ _ => lf_zif (h _ _ _)
  all_goals first
    | exact lf_k none
    | exact h _ _ _
    | exact lf_j _ _ _ _
    | exact lf_gI fun _ => h _ _ _
    | exact lf_gL fun _ => h _ _ _
    | exact lf_gR fun _ _ => h _ _ _
    | exact lf_oB fun _ => h _ _ _
    | exact lf_pI fun _ _ => h _ _ _
    | exact lf_pL fun _ _ => h _ _ _
    | exact lf_pR fun _ _ _ => h _ _ _
    | exact lf_pI fun _ _ => lf_pI fun _ _ => h _ _ _
    | exact lf_pL fun _ _ => lf_pL fun _ _ => h _ _ _
    | exact lf_pI fun _ _ => lf_pL fun _ _ => h _ _ _
    | exact lf_pI fun _ _ => lf_pR fun _ _ _ => h _ _ _
    | exact lf_pI fun _ _ => lf_pI fun _ _ => lf_ite (lf_k none) (h _ _ _)
    | exact lf_pI fun _ _ => lf_zif0 (lf_j _ _ _ _) (h _ _ _)
    | exact lf_pI fun _ _ => lf_pI fun _ _ => lf_zic (lf_j _ _ _ _) (h _ _ _)
    | exact lf_pI fun _ _ => lf_zsw _
    | exact lf_zdup fun _ => h _ _ _
    | exact lf_zgf h
    | exact lf_zpf h
    | exact lf_zinv hM h
    | exact lf_pI fun _ _ => lf_pR fun _ _ _ => lf_zif (lf_chk (h _ _ _))
    | exact lf_pI fun _ _ => lf_pI fun _ _ => lf_pR fun _ _ _ => lf_zif (lf_chk (h _ _ _))
    | exact lf_pI fun _ _ => lf_pI fun _ _ => lf_pR fun _ _ _ => lf_zif (lf_chk (lf_zb (h _ _ _)))
    | exact lf_pL fun _ _ => lf_pI fun _ _ => lf_pR fun _ _ _ => lf_zif (lf_chk (h _ _ _))
    | exact lf_pR fun _ _ _ => lf_zif (h _ _ _)
    | exact lf_pI fun _ _ => lf_pE (lf_k _)
    | exact lf_pL fun _ _ => lf_pE (lf_k _)
    | exact lf_pR fun _ _ _ => lf_pE (lf_k _)
    | exact lf_pE (lf_k _)
theorem lf_zrun {cF : List (Nat × Nat × Nat)} {cL : List (Nat × Int64)} {cM : List (Nat × Nat × ZCall ρ)} (hM : LfM cM) {ret : Option ZV → Wd → Option ρ} : ∀ (rs : List ZRow) (pc : Nat) (st : List ZV) (lo : Lo) (w : Wd), Lf (fun J => zrun cF cL cM ret J rs pc st lo w)
  | [], _, _, _, _ => lf_j _ _ _ _
  | _ :: rs, _, _, _, _ => lf_zstp hM fun _ _ _ => lf_zrun hM rs _ _ _ _
/-- jumps that are themselves of one jump -/
theorem lf_comp {F : ZJ ρ → Option ρ} (hF : Lf F) {G : ZJ ρ → ZJ ρ} (hG : ∀ pc st lo w, Lf (fun J => G J pc st lo w)) : Lf (fun J => F (G J)) := by
  intro J X h
  rcases hF _ _ h with g | ⟨pc, st, lo, w, g1, g2⟩
  · exact Or.inl fun J' => g _
  · rcases hG pc st lo w J X g1 with k | ⟨pc', st', lo', w', k1, k2⟩
    · exact Or.inl fun J' => g2 _ (k J')
    · exact Or.inr ⟨pc', st', lo', w', k1, fun J' h' => g2 _ (k2 J' h')⟩
theorem lf_zex {cF : List (Nat × Nat × Nat)} {cL : List (Nat × Int64)} {bl : ZBl} {cM : List (Nat × Nat × ZCall ρ)} (hM : LfM cM) {ret : Option ZV → Wd → Option ρ} : ∀ (k pc : Nat) (st : List ZV) (lo : Lo) (w : Wd), Lf (fun J => zex cF cL bl cM ret J k pc st lo w)
  | 0, _, _, _, _ => lf_k none
  | k + 1, _, _, _, _ => by
    refine lf_oB fun b => lf_comp (lf_zrun hM b.2 _ _ _ _) (G := fun J pc st lo w => oB (zop bl pc) fun b => match b.1 with
      | some ms => J pc st (zmask ms lo) w
      | none => zex cF cL bl cM ret J k pc st lo w) fun pc st lo w => lf_oB fun b' => ?_
    split
    · exact lf_j _ _ _ _
    · exact lf_zex hM k _ _ _ _
section EV
variable {cF : List (Nat × Nat × Nat)} {cL : List (Nat × Int64)} {bl : ZBl} {cM : List (Nat × Nat × ZCall ρ)} {ret : Option ZV → Wd → Option ρ}
theorem zeN_succ (hM : LfM cM) : ∀ (n pc : Nat) (st : List ZV) (lo : Lo) (w : Wd) (X : ρ), zeN cF cL bl cM ret n pc st lo w = some X → zeN cF cL bl cM ret (n + 1) pc st lo w = some X
  | 0, _, _, _, _, _, h => by cases h
  | n + 1, pc, st, lo, w, X, h => by
    rcases lf_zex hM 400 pc st lo w _ X h with g | ⟨pc', st', lo', w', g1, g2⟩
    · exact g _
    · exact g2 _ (zeN_succ hM n pc' st' lo' w' X g1)
theorem zeN_mono (hM : LfM cM) {n m : Nat} (hnm : n ≤ m) {pc : Nat} {st : List ZV} {lo : Lo} {w : Wd} {X : ρ} (h : zeN cF cL bl cM ret n pc st lo w = some X) : zeN cF cL bl cM ret m pc st lo w = some X := by
  induction hnm with
  | refl => exact h
  | step _ ih => exact zeN_succ hM _ _ _ _ _ _ ih
theorem zev_some (hM : LfM cM) {pc : Nat} {st : List ZV} {lo : Lo} {w : Wd} {X : ρ} : zev cF cL bl cM ret pc st lo w = some X ↔ ∃ n, zeN cF cL bl cM ret n pc st lo w = some X := by
  unfold zev
  constructor
  · intro h
    split at h
    · rename_i hx
      obtain ⟨n, hn⟩ := Classical.choose_spec hx
      cases h
      exact ⟨n, hn⟩
    · cases h
  · rintro ⟨n, hn⟩
    have hx : ∃ (X : ρ) (n : Nat), zeN cF cL bl cM ret n pc st lo w = some X := ⟨X, n, hn⟩
    rw [dif_pos hx]
    obtain ⟨m, hm⟩ := Classical.choose_spec hx
    have h1 := zeN_mono hM (Nat.le_max_left n m) hn
    have h2 := zeN_mono hM (Nat.le_max_right n m) hm
    rw [h1] at h2
    rw [← Option.some.inj h2]
theorem zev_eq (hM : LfM cM) (pc : Nat) (st : List ZV) (lo : Lo) (w : Wd) : zev cF cL bl cM ret pc st lo w = zex cF cL bl cM ret (zev cF cL bl cM ret) 400 pc st lo w := by
  apply Option.ext
  intro X
  constructor
  · intro h
    obtain ⟨n, hn⟩ := (zev_some hM).mp h
    cases n with
    | zero => cases hn
    | succ n =>
      rcases lf_zex hM 400 pc st lo w _ X hn with g | ⟨pc', st', lo', w', g1, g2⟩
      · exact g _
      · exact g2 _ ((zev_some hM).mpr ⟨n, g1⟩)
  · intro h
    rcases lf_zex hM 400 pc st lo w _ X h with g | ⟨pc', st', lo', w', g1, g2⟩
    · exact (zev_some hM).mpr ⟨1, g _⟩
    · obtain ⟨n, hn⟩ := (zev_some hM).mp g1
      exact (zev_some hM).mpr ⟨n + 1, g2 _ hn⟩
end EV
end EX
