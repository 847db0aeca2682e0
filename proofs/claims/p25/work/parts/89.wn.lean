/-! THE LAW'S METHODS: tools. -/
section WN
def Wn (o : Option (Int32 × Wd)) (Q : Wd → Prop) : Prop := ∃ w', o = some (nI 1, w') ∧ Q w'
def RA (w : Wd) (a : Nat → Nat) : Prop := ∀ j, j < 60 → w.1 30 0 j = nI (a j)
def St (w : Wd) (g : Gst) (a : Nat → Nat) : Prop := CI w g ∧ RA w a
theorem RA_cl {w w' : Wd} {a : Nat → Nat} (hf : Fr SCl w w') (h : RA w a) : RA w' a := fun j hj => by
  rw [(hf 30 0 rfl).1]
  exact h j hj
theorem CI_a {w w' : Wd} {g : Gst} (hf : Fr (S1 30 0) w w') (h : CI w g) : CI w' g := ⟨CJ_fr hf rfl rfl rfl rfl (fun k hk => ⟨rfl, rfl, rfl, rfl⟩) h.1, CS_fr hf rfl rfl rfl rfl rfl rfl h.2⟩
def up1 (a : Nat → Nat) (i x : Nat) : Nat → Nat := fun j => if j = i then x else a j
theorem St_wI {w : Wd} {g : Gst} {a : Nat → Nat} (h : St w g a) (i x : Nat) : St (wI w 30 0 i (nI x)) g (up1 a i x) := by
  refine ⟨CI_a (Fr.rf.wI (by decide)) h.1, fun j hj => ?_⟩
  rw [jw1]
  unfold up1
  by_cases e : j = i
  · rw [if_pos ⟨rfl, rfl, e⟩, if_pos e]
  · rw [if_neg (fun z => e z.2.2), if_neg e]
    exact h.2 j hj
variable {Q : Wd → Prop}
theorem Wn.call {α : Type} {f : Wd → Option (α × Wd)} {g g' : Gst} {v : α} {w : Wd} {a : Nat → Nat} {K : α × Wd → Option (Int32 × Wd)} (h : OK f g v g') (hS : St w g a) (k : ∀ w', St w' g' a → Wn (K (v, w')) Q) : Wn (oC (f w) K) Q := by
  obtain ⟨w', h1, h2, h3⟩ := h w hS.1
  rw [h1]
  exact k w' ⟨h3, RA_cl h2 hS.2⟩
theorem Wn.eq {α : Type} {o : Option α} {b : α} {K : α → Option (Int32 × Wd)} (h : o = some b) (k : Wn (K b) Q) : Wn (oC o K) Q := by
  rw [h]
  exact k
theorem Wn.pos {c : Prop} [Decidable c] {A B : Option (Int32 × Wd)} (h : c) (k : Wn A Q) : Wn (if c then A else B) Q := by
  rw [if_pos h]
  exact k
theorem Wn.neg {c : Prop} [Decidable c] {A B : Option (Int32 × Wd)} (h : ¬ c) (k : Wn B Q) : Wn (if c then A else B) Q := by
  rw [if_neg h]
  exact k
theorem Wn.chk {x n : Nat} {A : Option (Int32 × Wd)} (h : x < n) (hn : n < 2147483648) (k : Wn A Q) : Wn (chk (nI x) n A) Q := by
  rw [jchk h hn]
  exact k
theorem Wn.one {w : Wd} (h : Q w) : Wn (zb (nI 1) (some (nI 1, w))) Q := by
  rw [jzb1]
  exact ⟨w, rfl, h⟩
theorem Wn.rw {o o' : Option (Int32 × Wd)} (h : o = o') (k : Wn o' Q) : Wn o Q := by
  rw [h]
  exact k
theorem Wn.mono {o : Option (Int32 × Wd)} {Q' : Wd → Prop} (k : Wn o Q) (h : ∀ w, Q w → Q' w) : Wn o Q' := by
  obtain ⟨w, h1, h2⟩ := k
  exact ⟨w, h1, h w h2⟩
/-! numbers -/
theorem jany (x : Int32) : ∃ k, k < 4294967296 ∧ x = nI k := by
  refine ⟨x.toBitVec.toNat, x.toBitVec.isLt, ?_⟩
  unfold nI
  apply Int32.toBitVec_inj.mp
  simp
theorem jmod4 (c : Nat) : nI c &&& nI 3 = nI (c % 4) := by
  rw [jand, show (3 : Nat) = 2 ^ 2 - 1 from rfl, Nat.and_two_pow_sub_one_eq_mod]
theorem jand3 (x : Int32) : ∃ k, k < 4 ∧ x &&& (Int32.ofInt 3) = nI k := by
  obtain ⟨k, -, rfl⟩ := jany x
  exact ⟨k % 4, Nat.mod_lt _ (by decide), jmod4 k⟩
theorem jand31 (x : Int32) : ∃ k, k < 2147483648 ∧ x &&& ((2147483647 : Int64).toInt32) = nI k := by
  obtain ⟨k, -, rfl⟩ := jany x
  refine ⟨k &&& 2147483647, ?_, ?_⟩
  · rw [show (2147483647 : Nat) = 2 ^ 31 - 1 from rfl, Nat.and_two_pow_sub_one_eq_mod]
    exact Nat.mod_lt _ (by decide)
  · rw [show ((2147483647 : Int64).toInt32) = nI 2147483647 from rfl, jand]
/-! cell, up, held, commute -/
theorem m_cell {w : Wd} {k : Nat} (hk : k < 2147483648) : ∃ v, f_L_cell 0 (nI k) w = some (v, w) := by
  rw [e_L_cell]
  by_cases h : (Int32.ofNat (w.1 51 0 0).toNatClampNeg) ≤ nI k
  · rw [if_pos h]
    exact ⟨_, rfl⟩
  · rw [if_neg h]
    have hlt : (w.1 51 0 0).toNatClampNeg < 2147483648 := Int32.toNatClampNeg_lt _
    have hn : ¬ (nI (w.1 51 0 0).toNatClampNeg ≤ nI k) := h
    rw [jle hlt hk] at hn
    rw [jchk (by omega) hlt]
    exact ⟨_, rfl⟩
theorem m_up (x : Int32) (w : Wd) : ∃ m, m < 5 ∧ f_L_up x (nI 5) w = some (nI m, w) := by
  rw [e_L_up, if_neg (by decide)]
  obtain ⟨k, hk, e⟩ := jand31 x
  rw [e, jrem hk (by decide) (by decide)]
  exact ⟨k % 5, Nat.mod_lt _ (by decide), rfl⟩
theorem m_held_lp {w : Wd} {a : Nat → Nat} (hA : RA w a) {t n : Nat} (ht : t < 4) (hn : n ≤ 6) {P : Nat → Nat → Nat} (hp : ∀ s, s < n → a (4 + 6 * t + s) = P t s ∧ P t s < 16) : ∀ (m j : Nat), m + j = n → x_L_held 5 [] [some (zr 30 0), some (zi (nI t)), some (zi (nI n)), some (zi (nI (hx P t j))), some (zi (nI j)), none] w = some (nI (hx P t n), w) := by
  intro m
  induction m with
  | zero =>
    intro j hj
    rw [e_L_held_5]
    simp (disch := omega) only [jle]
    rw [if_pos (by omega), show j = n by omega]
  | succ m ih =>
    intro j hj
    obtain ⟨p1, p2⟩ := hp j (by omega)
    have e := hA (4 + 6 * t + j) (by omega)
    rw [p1] at e
    have hm : P t j % 4 < 4 := Nat.mod_lt _ (by decide)
    have h2 : 2 ^ (P t j % 4) ≤ 2 ^ 3 := Nat.pow_le_pow_right (by decide) (by omega)
    rw [← ih (j + 1) (by omega), e_L_held_5, show hx P t (j + 1) = hx P t j ^^^ hbit (P t j) from rfl]
    simp (disch := omega) only [jl, jle, jmul, nI_add, jchk, jcl, e, jmod4, jshl, jxor, Nat.one_mul]
    rw [if_neg (by omega)]
    unfold hbit
    by_cases h7 : P t j ≤ 7
    · rw [if_pos h7, if_pos (by omega)]
    · rw [if_neg h7, if_neg (by omega)]
theorem m_held {w : Wd} {a : Nat → Nat} (hA : RA w a) {t n : Nat} (ht : t < 4) (hn : n ≤ 6) {P : Nat → Nat → Nat} (hp : ∀ s, s < n → a (4 + 6 * t + s) = P t s ∧ P t s < 16) : f_L_held 0 (nI t) (nI n) w = some (nI (hx P t n), w) := by
  rw [e_L_held]
  exact m_held_lp hA ht hn hp n 0 rfl
theorem m_commute : ∀ c : Nat, c < 16 → ∀ d : Nat, d < 16 → ∀ w : Wd, f_L_commute (nI c) (nI d) w = some (nI (if cm c d = true then 1 else 0), w) := by
  intro c hc d hd w
  have e0 : c % 4 < 4 := Nat.mod_lt _ (by decide)
  have e1 : d % 4 < 4 := Nat.mod_lt _ (by decide)
  have a0 : ∀ x w, x_L_commute 58 [] [none, none, some (zi x), none, none] w = some (nI (if x = 0 then 1 else 0), w) := fun x w => by
    rw [e_L_commute_58]
    by_cases h : x = 0
    · rw [if_pos h, if_pos h]; exact jzb1
    · rw [if_neg h, if_neg h, if_neg (by decide)]; exact jzb0
  have a1 : ∀ x w, x_L_commute 62 [] [none, none, some (zi x), none, none] w = some (nI 1, w) := fun x w => by
    rw [e_L_commute_62]
    by_cases h : x = 0
    · rw [if_pos h]; exact jzb1
    · rw [if_neg h, if_pos (by decide)]; exact jzb1
  rw [e_L_commute]
  simp only [jl, jmod4, e_L_commute_14, a0, a1]
  simp (disch := omega) only [jshr, jmul, nI_add, jeq, jle, jlt]
  unfold cm
  have hA : c / 4 < 4 := by omega
  have hB : d / 4 < 4 := by omega
  rw [show (2 : Nat) ^ 2 = 4 from rfl]
  generalize c / 4 = A at hA ⊢
  generalize d / 4 = B at hB ⊢
  by_cases h1 : c % 4 = d % 4
  · simp only [if_pos h1, h1]
    rcases four hA with rfl | rfl | rfl | rfl <;> rcases four hB with rfl | rfl | rfl | rfl <;> rfl
  · simp only [if_neg h1, h1]
    rcases four hA with rfl | rfl | rfl | rfl <;> rcases four hB with rfl | rfl | rfl | rfl <;> rfl
end WN
