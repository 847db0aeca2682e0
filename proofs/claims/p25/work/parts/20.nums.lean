/-! NUMBERS: values of the executor as natural numbers. -/
theorem jl (n : Nat) : Int32.ofInt (no_index (OfNat.ofNat n)) = nI (OfNat.ofNat n) := Eq.trans rfl rfl
theorem jlL (n : Nat) : Int64.ofInt (no_index (OfNat.ofNat n)) = lN (OfNat.ofNat n) := Eq.trans rfl rfl
theorem jle {a b : Nat} (ha : a < 2147483648) (hb : b < 2147483648) : (nI a ≤ nI b) = (a ≤ b) := propext (nI_leI ha hb)
theorem jlt {a b : Nat} (ha : a < 2147483648) (hb : b < 2147483648) : (nI a < nI b) = (a < b) := propext (nI_ltI ha hb)
theorem jeq {a b : Nat} (ha : a < 2147483648) (hb : b < 2147483648) : (nI a = nI b) = (a = b) := propext (nI_eq ha hb)
theorem jlt0 {a : Nat} (ha : a < 2147483648) : (nI a < (0 : Int32)) = False := eq_false (nI_pos ha)
theorem jeq0 {a : Nat} (ha : a < 2147483648) : (nI a = (0 : Int32)) = (a = 0) := jeq ha (by decide)
theorem jle0 {a : Nat} (ha : a < 2147483648) : (nI a ≤ (0 : Int32)) = (a = 0) := by
  rw [show (0 : Int32) = nI 0 from rfl, jle ha (by decide)]
  exact propext ⟨fun h => by omega, fun h => by omega⟩
theorem jge0 {a : Nat} (ha : a < 2147483648) : ((0 : Int32) ≤ nI a) = True := eq_true (nI_pos' ha)
theorem jgt0 {a : Nat} (ha : a < 2147483648) : ((0 : Int32) < nI a) = (0 < a) := by
  rw [show (0 : Int32) = nI 0 from rfl, jlt (by decide) ha]
theorem jneg {a : Nat} (k : Nat) (ha : a < 2147483648) (hk : 0 < k) (hk2 : k ≤ 2147483648) : (nI a = Int32.ofInt (-(no_index (OfNat.ofNat k) : Int))) = False := by
  apply eq_false
  intro h
  have h1 := congrArg Int32.toInt h
  rw [nI_toInt ha] at h1
  have h2 : (Int32.ofInt (-(OfNat.ofNat k : Int))).toInt = -(k : Int) := by
    rw [show (OfNat.ofNat k : Int) = (k : Int) from rfl]
    exact Int32.toInt_ofInt_of_le (by omega) (by omega)
  rw [h2] at h1
  omega
theorem jneg' {a : Nat} (k : Nat) (ha : a < 2147483648) (hk : 0 < k) (hk2 : k ≤ 2147483648) : (Int32.ofInt (-(no_index (OfNat.ofNat k) : Int)) = nI a) = False := by
  rw [← jneg k ha hk hk2]
  exact propext ⟨Eq.symm, Eq.symm⟩
theorem jcl {a : Nat} (ha : a < 2147483648) : (nI a).toNatClampNeg = a := nI_clamp ha
theorem jsub {a b : Nat} (h : b ≤ a) : nI a - nI b = nI (a - b) := pk_sub h
theorem jmul (a b : Nat) : nI a * nI b = nI (a * b) := pk_mul a b
theorem jdiv {a d : Nat} (ha : a < 2147483648) (h0 : 0 < d) (hd : d < 2147483648) : nI a / nI d = nI (a / d) := pk_div ha h0 hd
theorem jchk {ρ : Type} {a n : Nat} {f : Option ρ} (h : a < n) (hn : n < 2147483648) : chk (nI a) n f = f := by
  unfold chk
  rw [if_neg (nI_in h hn)]
theorem jzb0 {ρ : Type} {f : Option ρ} : zb (nI 0) f = f := by
  unfold zb
  exact if_pos (Or.inl rfl)
theorem jzb1 {ρ : Type} {f : Option ρ} : zb (nI 1) f = f := by
  unfold zb
  exact if_pos (Or.inr rfl)
theorem joc {ρ α : Type} (a : α) (f : α → Option ρ) : oC (some a) f = f a := rfl
theorem jw1 (w : Wd) (t i j : Nat) (x : Int32) (a b c : Nat) : (wI w t i j x).1 a b c = if a = t ∧ b = i ∧ c = j then x else w.1 a b c := rfl
theorem jw2 (w : Wd) (t i j : Nat) (x : Int32) : (wI w t i j x).2 = w.2 := rfl
theorem jl1 (w : Wd) (t i j : Nat) (x : Int64) : (wL w t i j x).1 = w.1 := rfl
theorem jl2 (w : Wd) (t i j : Nat) (x : Int64) (a b c : Nat) : (wL w t i j x).2 a b c = if a = t ∧ b = i ∧ c = j then x else w.2 a b c := rfl
theorem jc1 (w : Wd) (t0 i0 sp t i dp n a b c : Nat) : (wC w t0 i0 sp t i dp n).1 a b c = if a = t ∧ b = i ∧ dp ≤ c ∧ c < dp + n then w.1 t0 i0 (sp + (c - dp)) else w.1 a b c := rfl
theorem jc2 (w : Wd) (t0 i0 sp t i dp n : Nat) : (wC w t0 i0 sp t i dp n).2 = w.2 := rfl
theorem jite (c : Prop) [Decidable c] (a b : Nat) : (if c then nI a else nI b) = nI (if c then a else b) := by split <;> rfl
theorem jand {a b : Nat} : nI a &&& nI b = nI (a &&& b) := by
  unfold nI
  apply Int32.toBitVec_inj.mp
  simp [Int32.toBitVec_and, Int32.toBitVec_ofNat', BitVec.ofNat_and]
theorem jor {a b : Nat} : nI a ||| nI b = nI (a ||| b) := by
  unfold nI
  apply Int32.toBitVec_inj.mp
  simp [Int32.toBitVec_or, Int32.toBitVec_ofNat', BitVec.ofNat_or]
theorem jxor {a b : Nat} : nI a ^^^ nI b = nI (a ^^^ b) := by
  unfold nI
  apply Int32.toBitVec_inj.mp
  simp [Int32.toBitVec_xor, Int32.toBitVec_ofNat', BitVec.ofNat_xor]
theorem jrem {a d : Nat} (ha : a < 2147483648) (h0 : 0 < d) (hd : d < 2147483648) : nI a - nI a / nI d * nI d = nI (a % d) := pk_rem ha h0 hd
theorem j31 {s : Nat} (hs : s < 32) : nI s &&& 31 = nI s := by
  rw [show (31 : Int32) = nI 31 from rfl, jand, show (31 : Nat) = 2 ^ 5 - 1 from rfl, Nat.and_two_pow_sub_one_eq_mod, Nat.mod_eq_of_lt (by omega)]
theorem jsm {s : Nat} (hs : s < 32) : ((nI s).toBitVec.smod 32).toNat = s := by
  have : ∀ s : Nat, s < 32 → ((nI s).toBitVec.smod 32).toNat = s := by decide +kernel
  exact this s hs
theorem jshl {a s : Nat} (hs : s < 32) (h : a * 2 ^ s < 4294967296) : nI a <<< (nI s &&& 31) = nI (a * 2 ^ s) := by
  rw [j31 hs]
  exact pk_shlN (nI s) s (jsm hs) h
theorem jshr {a s : Nat} (hs : s < 32) (h : a < 2147483648) : nI a >>> (nI s &&& 31) = nI (a / 2 ^ s) := by
  rw [j31 hs]
  exact pk_shrN h (nI s) s (jsm hs)
/-- any value is negative, or a natural number -/
theorem jnat (x : Int32) : x < 0 ∨ ∃ n : Nat, n < 2147483648 ∧ x = nI n := by
  by_cases h : x < 0
  · exact Or.inl h
  · exact Or.inr (nI_of h)
theorem jmod (a d : Nat) : a - a / d * d = a % d := by
  have := Nat.div_add_mod a d
  rw [Nat.mul_comm] at this
  omega
theorem jm1 {a : Nat} (ha : a < 2147483648) : (nI a = Int32.ofInt (-1)) = False := jneg 1 ha (by decide) (by decide)
theorem jn1 {a : Nat} (ha : a < 2147483648) : (Int32.ofInt (-1) = nI a) = False := jneg' 1 ha (by decide) (by decide)
theorem jm2 {a : Nat} (ha : a < 2147483648) : (nI a = Int32.ofInt (-2)) = False := jneg 2 ha (by decide) (by decide)
theorem jn2 {a : Nat} (ha : a < 2147483648) : (Int32.ofInt (-2) = nI a) = False := jneg' 2 ha (by decide) (by decide)
theorem jm3 {a : Nat} (ha : a < 2147483648) : (nI a = Int32.ofInt (-3)) = False := jneg 3 ha (by decide) (by decide)
theorem jn3 {a : Nat} (ha : a < 2147483648) : (Int32.ofInt (-3) = nI a) = False := jneg' 3 ha (by decide) (by decide)
theorem jm4 {a : Nat} (ha : a < 2147483648) : (nI a = Int32.ofInt (-4)) = False := jneg 4 ha (by decide) (by decide)
theorem jn4 {a : Nat} (ha : a < 2147483648) : (Int32.ofInt (-4) = nI a) = False := jneg' 4 ha (by decide) (by decide)
theorem jm5 {a : Nat} (ha : a < 2147483648) : (nI a = Int32.ofInt (-5)) = False := jneg 5 ha (by decide) (by decide)
theorem jn5 {a : Nat} (ha : a < 2147483648) : (Int32.ofInt (-5) = nI a) = False := jneg' 5 ha (by decide) (by decide)
theorem jm6 {a : Nat} (ha : a < 2147483648) : (nI a = Int32.ofInt (-6)) = False := jneg 6 ha (by decide) (by decide)
theorem jn6 {a : Nat} (ha : a < 2147483648) : (Int32.ofInt (-6) = nI a) = False := jneg' 6 ha (by decide) (by decide)
