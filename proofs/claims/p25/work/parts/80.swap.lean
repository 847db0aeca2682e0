/-! STEPS THAT COMMUTE can go in either order; rows of goes. -/
section SW
variable {L : Nat → Nat} {P : Nat → Nat → Nat}
def mv (s : Nat → Nat) (t : Nat) : Nat → Nat := fun u => if u = t then s u + 1 else s u
theorem mv_self (s : Nat → Nat) (t : Nat) : mv s t t = s t + 1 := if_pos rfl
theorem mv_ne (s : Nat → Nat) {t u : Nat} (h : u ≠ t) : mv s t u = s u := if_neg h
theorem mv_comm (s : Nat → Nat) {a b : Nat} (h : a ≠ b) : mv (mv s a) b = mv (mv s b) a := by
  funext u
  unfold mv
  by_cases h1 : u = a
  · by_cases h2 : u = b
    · exact absurd (h1.symm.trans h2) h
    · simp [h1, h]
  · by_cases h2 : u = b
    · simp [h2, Ne.symm h]
    · simp [h1, h2]
theorem goS_iff {s : Nat → Nat} {t : Nat} : goS L P s t = true ↔ s t < L t ∧ (P t (s t) / 4 = 2 → ∀ u, u < 4 → u ≠ t → (hx P u (s u)).testBit (P t (s t) % 4) = false) := by
  unfold goS
  rw [Bool.and_eq_true, Bool.or_eq_true, Bool.not_eq_true', Bool.not_eq_true', decide_eq_true_eq, decide_eq_false_iff_not, or4_bit]
  refine and_congr_right fun _ => ?_
  constructor
  · intro h h2 u hu hne
    have h := h.resolve_left (fun z => z h2)
    simp only [Bool.or_eq_false_iff] at h
    obtain ⟨⟨⟨h0, h1⟩, h3⟩, h4⟩ := h
    rcases four hu with rfl | rfl | rfl | rfl
    · rw [if_neg hne] at h0; exact h0
    · rw [if_neg hne] at h1; exact h1
    · rw [if_neg hne] at h3; exact h3
    · rw [if_neg hne] at h4; exact h4
  · intro h
    by_cases h2 : P t (s t) / 4 = 2
    · right
      have h := h h2
      have e : ∀ u, u < 4 → (if u = t then 0 else hx P u (s u)).testBit (P t (s t) % 4) = false := fun u hu => by
        by_cases e : u = t
        · rw [if_pos e, Nat.zero_testBit]
        · rw [if_neg e]; exact h u hu e
      simp only [Bool.or_eq_false_iff]
      exact ⟨⟨⟨e 0 (by decide), e 1 (by decide)⟩, e 2 (by decide)⟩, e 3 (by decide)⟩
    · exact Or.inl h2
theorem hx_step (u k m : Nat) : (hx P u (k + 1)).testBit m = ((hx P u k).testBit m ^^ (hbit (P u k)).testBit m) := by
  show (hx P u k ^^^ hbit (P u k)).testBit m = _
  rw [Nat.testBit_xor]
/-- a step that commutes with a locking step is not on its lock -/
theorem cm_lock {c d : Nat} (h : cm c d = true) (h2 : c / 4 = 2) : (hbit d).testBit (c % 4) = false := by
  rw [hbit_bit]
  cases hd : decide (2 ≤ d / 4) with
  | false => rfl
  | true =>
    have hd := of_decide_eq_true hd
    cases he : decide (d % 4 = c % 4) with
    | false => rfl
    | true =>
      exfalso
      have he := of_decide_eq_true he
      unfold cm at h
      simp [h2, hd, he] at h
theorem swap_go {s : Nat → Nat} {x t : Nat} (ht : t < 4) (hxx : x < 4) (hne : x ≠ t) (h1 : goS L P s x = true) (h2 : goS L P (mv s x) t = true) (hc : cm (P t (s t)) (P x (s x)) = true) : goS L P s t = true ∧ goS L P (mv s t) x = true := by
  rw [goS_iff] at h1 h2 ⊢
  rw [goS_iff]
  rw [mv_ne s (Ne.symm hne)] at h2
  rw [mv_ne s hne]
  refine ⟨⟨h2.1, fun hk u hu hut => ?_⟩, h1.1, fun hk u hu hux => ?_⟩
  · have h := h2.2 hk u hu hut
    by_cases e : u = x
    · subst e
      rw [mv_self, hx_step, cm_lock hc hk, Bool.xor_false] at h
      exact h
    · rw [mv_ne s e] at h
      exact h
  · have h := h1.2 hk u hu hux
    by_cases e : u = t
    · subst e
      rw [mv_self, hx_step, h, cm_lock (by rw [cm_comm]; exact hc) hk]
      rfl
    · rw [mv_ne s e]
      exact h
/-! rows of goes -/
def rn (L : Nat → Nat) (P : Nat → Nat → Nat) : (Nat → Nat) → List Nat → Prop
  | _, [] => True
  | s, t :: w => t < 4 ∧ goS L P s t = true ∧ rn L P (mv s t) w
def en : (Nat → Nat) → List Nat → Nat → Nat
  | s, [] => s
  | s, t :: w => en (mv s t) w
theorem en_app : ∀ (a : List Nat) (s : Nat → Nat) (b : List Nat), en s (a ++ b) = en (en s a) b
  | [], _, _ => rfl
  | t :: a, s, b => en_app a (mv s t) b
theorem rn_app : ∀ (a : List Nat) (s : Nat → Nat) (b : List Nat), rn L P s (a ++ b) ↔ rn L P s a ∧ rn L P (en s a) b
  | [], s, b => by
    show rn L P s b ↔ True ∧ rn L P s b
    rw [true_and]
  | t :: a, s, b => by
    show (t < 4 ∧ goS L P s t = true ∧ rn L P (mv s t) (a ++ b)) ↔ (t < 4 ∧ goS L P s t = true ∧ rn L P (mv s t) a) ∧ rn L P (en (mv s t) a) b
    rw [rn_app a (mv s t) b]
    constructor
    · rintro ⟨h1, h2, h3, h4⟩; exact ⟨⟨h1, h2, h3⟩, h4⟩
    · rintro ⟨⟨h1, h2, h3⟩, h4⟩; exact ⟨h1, h2, h3, h4⟩
/-- a step commutes with all steps of a row -/
def cmA (P : Nat → Nat → Nat) (c : Nat) : (Nat → Nat) → List Nat → Prop
  | _, [] => True
  | s, x :: a => cm c (P x (s x)) = true ∧ cmA P c (mv s x) a
theorem cmA_off {c t : Nat} : ∀ (a : List Nat) (s : Nat → Nat), t ∉ a → (cmA P c (mv s t) a ↔ cmA P c s a)
  | [], _, _ => Iff.rfl
  | x :: a, s, h => by
    have hx : x ≠ t := fun e => h (by rw [e]; exact List.mem_cons_self)
    have ha : t ∉ a := fun e => h (List.mem_cons_of_mem _ e)
    show (cm c (P x (mv s t x)) = true ∧ cmA P c (mv (mv s t) x) a) ↔ (cm c (P x (s x)) = true ∧ cmA P c (mv s x) a)
    rw [mv_ne s hx, mv_comm s (Ne.symm hx), cmA_off a (mv s x) ha]
theorem cmA_ins {c t : Nat} : ∀ (a : List Nat) (s : Nat → Nat) (b : List Nat), t ∉ a → cmA P c (mv s t) (a ++ b) → cm c (P t (s t)) = true → cmA P c s (a ++ t :: b)
  | [], s, b, _, h, hc => ⟨hc, h⟩
  | x :: a, s, b, h, h2, hc => by
    have hx : x ≠ t := fun e => h (by rw [e]; exact List.mem_cons_self)
    have ha : t ∉ a := fun e => h (List.mem_cons_of_mem _ e)
    have h2 : cm c (P x (mv s t x)) = true ∧ cmA P c (mv (mv s t) x) (a ++ b) := h2
    rw [mv_ne s hx, mv_comm s (Ne.symm hx)] at h2
    refine ⟨h2.1, cmA_ins a (mv s x) b ha h2.2 ?_⟩
    rw [mv_ne s (Ne.symm hx)]
    exact hc
/-- a thread's next step can come first -/
def ini (P : Nat → Nat → Nat) (s : Nat → Nat) (t : Nat) (w : List Nat) : Prop := ∃ a b, w = a ++ t :: b ∧ t ∉ a ∧ cmA P (P t (s t)) s a
theorem front {t : Nat} : ∀ (a : List Nat) (s : Nat → Nat) (b : List Nat), rn L P s (a ++ t :: b) → t ∉ a → cmA P (P t (s t)) s a → t < 4 ∧ goS L P s t = true ∧ rn L P (mv s t) (a ++ b) ∧ en (mv s t) (a ++ b) = en s (a ++ t :: b)
  | [], s, b, h, _, _ => ⟨h.1, h.2.1, h.2.2, rfl⟩
  | x :: a, s, b, h, hn, hc => by
    have hx : x ≠ t := fun e => hn (by rw [e]; exact List.mem_cons_self)
    have ha : t ∉ a := fun e => hn (List.mem_cons_of_mem _ e)
    have h : x < 4 ∧ goS L P s x = true ∧ rn L P (mv s x) (a ++ t :: b) := h
    have hc : cm (P t (s t)) (P x (s x)) = true ∧ cmA P (P t (s t)) (mv s x) a := hc
    obtain ⟨i1, i2, i3, i4⟩ := front a (mv s x) b h.2.2 ha (by rw [mv_ne s (Ne.symm hx)]; exact hc.2)
    obtain ⟨g1, g2⟩ := swap_go i1 h.1 hx h.2.1 i2 hc.1
    rw [mv_comm s hx] at i3 i4
    exact ⟨i1, g1, ⟨h.1, g2, i3⟩, i4⟩
/-- what can come first behind a thread that came first, and commutes with it, could come first -/
theorem ini_back {s : Nat → Nat} {t u : Nat} {a b : List Nat} (hut : u ≠ t) (ha : t ∉ a) (hc : cm (P u (s u)) (P t (s t)) = true) (h : ini P (mv s t) u (a ++ b)) : ini P s u (a ++ t :: b) := by
  obtain ⟨a', b', h1, h2, h3⟩ := h
  rw [mv_ne s hut] at h3
  have one : ∀ c, a' = a ++ c → b = c ++ u :: b' → ini P s u (a ++ t :: b) := fun c e1 e2 => by
    refine ⟨a ++ t :: c, b', by rw [e2]; simp, fun hm => ?_, cmA_ins a s c ha (by rw [← e1]; exact h3) hc⟩
    rw [e1] at h2
    rcases List.mem_append.mp hm with hm | hm
    · exact h2 (List.mem_append.mpr (Or.inl hm))
    · rcases List.mem_cons.mp hm with hm | hm
      · exact hut hm
      · exact h2 (List.mem_append.mpr (Or.inr hm))
  rcases List.append_eq_append_iff.mp h1 with ⟨c, e1, e2⟩ | ⟨c, e1, e2⟩
  · exact one c e1 e2
  · cases c with
    | nil =>
      exact one [] (by simpa using e1.symm) (by simpa using e2.symm)
    | cons y c =>
      have e2 : u :: b' = y :: (c ++ b) := e2
      injection e2 with e3 e4
      subst e3
      have hta : t ∉ a' := fun hm => ha (by rw [e1]; exact List.mem_append.mpr (Or.inl hm))
      exact ⟨a', c ++ t :: b, by rw [e1]; simp, h2, (cmA_off a' s hta).mp h3⟩
end SW
