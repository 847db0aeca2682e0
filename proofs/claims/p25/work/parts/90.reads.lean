/-! THE LAW reads a program by a number. -/
section RD
def sg (k : Nat) : Nat := if k = 0 then 114 else if k = 1 then 119 else if k = 2 then 108 else 117
def y2 (k o : Nat) : Int64 := (((256 : Int64) * (nI (sg k)).toInt64) + (48 : Int64)) + (nI o).toInt64
def y1 (t : Nat) : Int64 := (nI 48 + nI t).toInt64
theorem put2 : ∀ k : Nat, k < 4 → ∀ o : Nat, o < 4 → yN (y2 k o) = 2 ∧ bt (y2 k o) 0 = 48 + o ∧ bt (y2 k o) 1 = sg k := by decide +kernel
theorem put1 : ∀ t : Nat, t < 4 → yN (y1 t) = 1 ∧ bt (y1 t) 0 = 48 + t := by decide +kernel
theorem kd_sg : ∀ k : Nat, k < 4 → kd (sg k) = k ∧ 33 ≤ sg k ∧ sg k ≤ 126 := by decide +kernel
theorem dg_48 : ∀ o : Nat, o < 4 → dg (48 + o) = true := by decide +kernel
/-- the law's array is the programs -/
def PA (g : Gst) (a : Nat → Nat) : Prop := (∀ t, t < 4 → a t = g.2.1.1 t ∧ g.2.1.1 t ≤ 4) ∧ ∀ t s, t < 4 → s < g.2.1.1 t → a (4 + 6 * t + s) = g.2.1.2.1 t s
def RdP (a : Nat → Nat) (w' : Wd) : Prop := ∃ g' a', St w' g' a' ∧ GI g' ∧ PA g' a' ∧ g'.1.1 = 0 ∧ g'.2.1.2.2.1 = 0 ∧ ∀ j, 28 ≤ j → a' j = a j
def sgP (p : Nat → Nat) (j : Nat) (S : Nat → Nat) : Prop := ∀ i, i < j → S (2 * i) = sg (p i / 4) ∧ S (2 * i + 1) = 48 + p i % 4 ∧ p i < 16
theorem sgP_ok {p S : Nat → Nat} {j : Nat} (h : sgP p j S) (hj : j ≤ 6) : okP (2 * j) S := by
  refine ⟨by omega, by omega, fun i hi => ?_⟩
  obtain ⟨h1, h2, h3⟩ := h (i / 2) (by omega)
  by_cases he : i % 2 = 0
  · rw [if_pos he]
    rw [show 2 * (i / 2) = i by omega] at h1
    rw [h1, (kd_sg _ (by omega)).1]
    omega
  · rw [if_neg he]
    rw [show 2 * (i / 2) + 1 = i by omega] at h2
    rw [h2]
    exact dg_48 _ (Nat.mod_lt _ (by decide))
theorem sgP_SK {p S : Nat → Nat} {j : Nat} (h : sgP p j S) (hj : j ≤ 6) : SK (2 * j) S := by
  refine ⟨by omega, fun i hi => ?_⟩
  obtain ⟨h1, h2, h3⟩ := h (i / 2) (by omega)
  by_cases he : i % 2 = 0
  · rw [show 2 * (i / 2) = i by omega] at h1
    rw [h1]
    exact (kd_sg _ (by omega)).2
  · rw [show 2 * (i / 2) + 1 = i by omega] at h2
    rw [h2]
    omega
theorem sgP_C {p S : Nat → Nat} {j : Nat} (h : sgP p j S) {k : Nat} (hk : k < j) : pgC S k = p k := by
  obtain ⟨h1, h2, h3⟩ := h k hk
  unfold pgC
  rw [h1, h2, (kd_sg _ (by omega)).1]
  omega
theorem reads_end {g : Gst} (hG : GI g) {a0 a : Nat → Nat} (hA : PA g a0) {t j : Nat} (ht : t < 4) (hj : j ≤ 4) {w : Wd} {S p : Nat → Nat} {lk mo x : Int32} (hm : mo = nI j) (hS : St w ((2 * j, S), g.2) a) (hP : sgP p j S) (ha : ∀ i, i < j → a (4 + 6 * t + i) = p i) (hw : wl (fun _ => p) t j = true) (ho : ∀ i, ¬ (4 + 6 * t ≤ i ∧ i < 4 + 6 * t + 4) → a i = a0 i) :
    Wn (x_L_reads 19 [] [some (zr 7 0), some (zr 30 0), some (zi (nI t)), none, some (zi (nI j)), some (zi lk), some (zi mo), some (zi x), some (zi (nI j)), none, none, none] w) (RdP a0) := by
  subst hm
  have hG1 : GI ((2 * j, S), g.2) := ⟨sgP_SK hP (by omega), hG.2⟩
  have hO : okP (2 * j) S := sgP_ok hP (by omega)
  have e2 : 2 * j / 2 = j := by omega
  have hwl : wl (pgP S t (2 * j) g.2.1.2.1) t (pgL t (2 * j) g.2.1.1 t) = true := by
    rw [show pgL t (2 * j) g.2.1.1 t = 2 * j / 2 from if_pos rfl, e2, ← hw]
    refine wl_congr j fun i hi => ?_
    show (if t = t then (if i < 2 * j / 2 then pgC S i else 0) else g.2.1.2.1 t i) = p i
    rw [if_pos rfl, if_pos (by omega), sgP_C hP hi]
  have hG2 := prgG_GI (g := ((2 * j, S), g.2)) hG1 hO ht hwl
  rw [e_L_reads_19]
  refine Wn.pos (by rw [jle (by omega) (by omega)]; exact Nat.le_refl _) ?_
  refine Wn.chk (by omega) (by decide) ?_
  rw [jcl (by omega)]
  refine Wn.call (k_fault0 hG1 hO) (St_wI hS t j) fun w1 s1 => ?_
  refine Wn.pos rfl ?_
  refine Wn.call (k_program hG1 hO ht hwl) s1 fun w2 s2 => ?_
  refine Wn.pos (show nI (2 * j / 2) = nI j by rw [e2]) ?_
  refine Wn.call (k_count_t hG2 ht) s2 fun w3 s3 => ?_
  refine Wn.pos (show nI (pgL t (2 * j) g.2.1.1 t) = nI j by rw [show pgL t (2 * j) g.2.1.1 t = 2 * j / 2 from if_pos rfl, e2]) ?_
  refine Wn.call k_count5 s3 fun w4 s4 => ?_
  refine Wn.pos (show nI 0 = (0 : Int32) from rfl) ?_
  refine Wn.one ⟨prgG ((2 * j, S), g.2) t, up1 a t j, s4, hG2, ⟨fun u hu => ?_, fun u s hu hs => ?_⟩, rfl, rfl, fun i hi => ?_⟩
  · show up1 a t j u = pgL t (2 * j) g.2.1.1 u ∧ pgL t (2 * j) g.2.1.1 u ≤ 4
    unfold up1 pgL
    by_cases e : u = t
    · rw [if_pos e, if_pos e, e2]
      exact ⟨rfl, hj⟩
    · rw [if_neg e, if_neg e, ho u (by omega)]
      exact hA.1 u hu
  · have hs : s < pgL t (2 * j) g.2.1.1 u := hs
    show up1 a t j (4 + 6 * u + s) = (if u = t then (if s < 2 * j / 2 then pgC S s else 0) else g.2.1.2.1 u s)
    unfold up1
    unfold pgL at hs
    rw [if_neg (by omega)]
    by_cases e : u = t
    · rw [if_pos e] at hs ⊢
      rw [if_pos hs, e, ha s (by omega), sgP_C hP (by omega)]
    · rw [if_neg e] at hs ⊢
      have h4 := (hA.1 u hu).2
      rw [ho _ (by omega)]
      exact hA.2 u s hu hs
  · unfold up1
    rw [if_neg (by omega), ho i (by omega)]
theorem reads_lp {g : Gst} (hG : GI g) {a0 : Nat → Nat} (hA : PA g a0) {t most : Nat} (ht : t < 4) (hm : most ≤ 4) : ∀ (m j : Nat) (w : Wd) (S p : Nat → Nat) (x : Int32) (a : Nat → Nat), m + j = most → St w ((2 * j, S), g.2) a → sgP p j S → (∀ i, i < j → a (4 + 6 * t + i) = p i) → wl (fun _ => p) t j = true → (∀ i, ¬ (4 + 6 * t ≤ i ∧ i < 4 + 6 * t + 4) → a i = a0 i) →
    Wn (x_L_reads 19 [] [some (zr 7 0), some (zr 30 0), some (zi (nI t)), none, some (zi (nI j)), some (zi (nI (hx (fun _ => p) t j))), some (zi (nI most)), some (zi x), some (zi (nI j)), none, none, none] w) (RdP a0) := by
  intro m
  induction m with
  | zero =>
    intro j w S p x a hj hS hP ha hw ho
    exact reads_end hG hA ht (by omega) (by rw [show most = j by omega]) hS hP ha hw ho
  | succ m ih =>
    intro j w S p x a hj hS hP ha hw ho
    have h16 := hx_lt (fun _ => p) t j
    obtain ⟨k0, hk0, ek⟩ := jand3 ((((1103515245 : Int64).toInt32) * x + (Int32.ofInt 12345)) >>> ((Int32.ofInt 20) &&& 31))
    obtain ⟨o, ho4, eo⟩ := jand3 ((((1103515245 : Int64).toInt32) * x + (Int32.ofInt 12345)) >>> ((Int32.ofInt 16) &&& 31))
    have h2o : 2 ^ o ≤ 2 ^ 3 := Nat.pow_le_pow_right (by decide) (by omega)
    have eb : (Int32.ofInt 1) <<< (nI o &&& 31) = nI (2 ^ o) := by
      rw [jl, jshl (by omega) (by omega), Nat.one_mul]
    have ec : ((nI (hx (fun _ => p) t j) >>> (nI o &&& 31)) &&& (Int32.ofInt 1) = Int32.ofInt 1) = ((hx (fun _ => p) t j).testBit o = true) := by
      have h1 : hx (fun _ => p) t j / 2 ^ o % 2 < 2 := Nat.mod_lt _ (by decide)
      rw [jl, jshr (by omega) (by omega), jand, Nat.and_one_is_mod, jeq (by omega) (by omega), Nat.testBit_eq_decide_div_mod_eq, decide_eq_true_eq]
    rw [e_L_reads_19]
    refine Wn.neg (by rw [jle (by omega) (by omega)]; omega) ?_
    simp only [ek, eo, eb, ec]
    generalize ((1103515245 : Int64).toInt32) * x + (Int32.ofInt 12345) = x'
    -- the put
    have st2 : ∀ k, k < 4 → (k = 2 → (hx (fun _ => p) t j).testBit o = false) → (k = 3 → (hx (fun _ => p) t j).testBit o = true) →
        Wn (x_L_reads 158 [zi (nI (sg k))] [some (zr 7 0), some (zr 30 0), some (zi (nI t)), none, some (zi (nI (j + 1))), some (zi (nI (hx (fun _ => p) t j ^^^ hbit (4 * k + o)))), some (zi (nI most)), some (zi x'), some (zi (nI j)), some (zi (nI o)), none, none] (wI w 30 0 (4 + 6 * t + j) (nI (4 * k + o)))) (RdP a0) := fun k hk w2 w3 => by
      obtain ⟨q1, q2, q3⟩ := put2 k hk o ho4
      have e4 : (4 * k + o) / 4 = k := by omega
      have e5 : (4 * k + o) % 4 = o := by omega
      rw [e_L_reads_158]
      refine Wn.call (k_put (g := ((2 * j, S), g.2)) (y := y2 k o) q1 (by decide) (show 2 * j + 2 ≤ 40 by omega)) (St_wI hS (4 + 6 * t + j) (4 * k + o)) fun w1 s1 => ?_
      refine Wn.pos (show nI (2 * j + 2) = Int32.ofInt 2 * nI (j + 1) by rw [jl, jmul]; rfl) ?_
      have e1 : nI j + Int32.ofInt 1 = nI (j + 1) := nI_add j 1
      rw [e1]
      have hh : hx (fun _ => up1 p j (4 * k + o)) t (j + 1) = hx (fun _ => p) t j ^^^ hbit (4 * k + o) := by
        show hx (fun _ => up1 p j (4 * k + o)) t j ^^^ hbit (up1 p j (4 * k + o) j) = _
        rw [hx_congr (Q := fun _ => p) j fun i hi => (by show up1 p j (4 * k + o) i = p i; unfold up1; rw [if_neg (by omega)])]
        unfold up1
        rw [if_pos rfl]
      rw [← hh]
      refine ih (j + 1) w1 (fun i => if i < 2 * j then S i else bt (y2 k o) (2 - 1 - (i - 2 * j))) (up1 p j (4 * k + o)) x' (up1 a (4 + 6 * t + j) (4 * k + o)) (by omega) s1 (fun i hi => ?_) (fun i hi => ?_) ?_ (fun i hi => ?_)
      · dsimp only
        by_cases e : i = j
        · have ep : up1 p j (4 * k + o) i = 4 * k + o := if_pos e
          rw [ep, e, if_neg (by omega), if_neg (by omega), show 2 - 1 - (2 * j - 2 * j) = 1 by omega, show 2 - 1 - (2 * j + 1 - 2 * j) = 0 by omega, q2, q3, e4, e5]
          exact ⟨rfl, rfl, by omega⟩
        · have ep : up1 p j (4 * k + o) i = p i := if_neg e
          rw [ep, if_pos (by omega), if_pos (by omega)]
          exact hP i (by omega)
      · unfold up1
        by_cases e : i = j
        · rw [if_pos (by omega), if_pos e]
        · rw [if_neg (by omega), if_neg e]
          exact ha i (by omega)
      · rw [wl, wl_congr (Q := fun _ => p) j fun i hi => (by show up1 p j (4 * k + o) i = p i; unfold up1; rw [if_neg (by omega)]), hw, Bool.true_and]
        unfold wk
        rw [hx_congr (Q := fun _ => p) j fun i hi => (by show up1 p j (4 * k + o) i = p i; unfold up1; rw [if_neg (by omega)])]
        have epj : up1 p j (4 * k + o) j = 4 * k + o := if_pos rfl
        simp only [epj, e4, e5]
        by_cases c2 : k = 2
        · rw [if_pos c2, w2 c2]; rfl
        · rw [if_neg c2]
          by_cases c3 : k = 3
          · rw [if_pos c3, w3 c3]
          · rw [if_neg c3]
      · unfold up1
        rw [if_neg (by omega)]
        exact ho i hi
    have st1 : ∀ k b, k < 4 → b = hbit (4 * k + o) → (k = 2 → (hx (fun _ => p) t j).testBit o = false) → (k = 3 → (hx (fun _ => p) t j).testBit o = true) →
        Wn (x_L_reads 100 [zi (nI b), zi (nI (hx (fun _ => p) t j))] [some (zr 7 0), some (zr 30 0), some (zi (nI t)), none, some (zi (nI j)), none, some (zi (nI most)), some (zi x'), some (zi (nI j)), some (zi (nI o)), some (zi (nI k)), none] w) (RdP a0) := fun k b hk hb w2 w3 => by
      have h := st2 k hk w2 w3
      rw [e_L_reads_100]
      simp (disch := omega) only [jl, jmul, nI_add, jchk, jcl, jxor]
      rw [hb]
      rcases four hk with rfl | rfl | rfl | rfl
      · exact Wn.pos (by rfl) h
      · exact Wn.neg (by decide) (Wn.pos (by rfl) h)
      · exact Wn.neg (by decide) (Wn.neg (by decide) (Wn.pos (by rfl) h))
      · exact Wn.neg (by decide) (Wn.neg (by decide) (Wn.neg (by decide) h))
    by_cases hk1 : k0 ≤ 1
    · refine Wn.pos (by rw [jl, jle (by omega) (by decide)]; exact hk1) ?_
      refine Wn.pos (by rw [jl, jle (by omega) (by decide)]; exact hk1) ?_
      refine st1 k0 0 hk0 ?_ (fun h => by omega) (fun h => by omega)
      unfold hbit
      rw [if_pos (by omega)]
    · refine Wn.neg (by rw [jl, jle (by omega) (by decide)]; exact hk1) ?_
      have hb : ∀ k, k = 2 ∨ k = 3 → 2 ^ o = hbit (4 * k + o) := fun k hk => by
        unfold hbit
        rw [if_neg (by omega), show (4 * k + o) % 4 = o by omega]
      by_cases hbit' : (hx (fun _ => p) t j).testBit o = true
      · refine Wn.pos hbit' (Wn.neg (by decide) ?_)
        exact st1 3 (2 ^ o) (by decide) (hb 3 (Or.inr rfl)) (fun h => by omega) (fun _ => hbit')
      · refine Wn.neg hbit' (Wn.neg (by decide) ?_)
        exact st1 2 (2 ^ o) (by decide) (hb 2 (Or.inl rfl)) (fun _ => by simpa using hbit') (fun h => by omega)
theorem m_reads {g : Gst} (hG : GI g) {a : Nat → Nat} (hA : PA g a) (hp : g.1.1 = 0) {t : Nat} (ht : t < 4) {w : Wd} (hS : St w g a) (x : Int32) : Wn (f_L_reads 0 0 (nI t) x w) (RdP a) := by
  rw [e_L_reads]
  obtain ⟨m, hm, e⟩ := m_up x w
  refine Wn.eq e ?_
  rw [e_L_reads_16]
  have hS' : St w ((2 * 0, g.1.2), g.2) a := by
    have e1 : g = ((2 * 0, g.1.2), g.2) := by
      rw [show 2 * 0 = g.1.1 by rw [hp]]
    rw [← e1]
    exact hS
  exact reads_lp hG hA ht (show m ≤ 4 by omega) m 0 w g.1.2 (fun _ => 0) x a rfl hS' (fun i hi => by omega) (fun i hi => by omega) rfl (fun i _ => rfl)
end RD
