/-! CLASS AND REFERENCE ANSWER ALIKE: stands, deadlock, runs. -/
section SM
variable {L : Nat → Nat} {P : Nat → Nat → Nat}
theorem zsm_same (hW : WP L P) {f g : Nat → Nat} (h0 : ∀ c, c < 4096 → W8 L P c = 0 → f c = 0) (h1 : ∀ n, n < 2401 → f (eN n) = g n) : zsm f 4096 = zsm g 2401 := by
  rw [zsm_all (fun c hc hf => W8_img hW hc fun hz => hf (h0 c hc hz))]
  exact zsm_congr h1
theorem dB_eN (hW : WP L P) {n : Nat} (hn : n < 2401) : dB8 L P (eN n) = dB7 L P n := by
  unfold dB8 dB7
  rw [W_eN hW n hn, eN_dig hn]
theorem nd_eN (hW : WP L P) {n : Nat} (hn : n < 2401) : nd8 L P (eN n) = nd7 L P n := by
  unfold nd8 nd7
  rw [dB_eN hW hn]
theorem dB8_W {c : Nat} (h : dB8 L P c = true) : ¬ W8 L P c = 0 := fun hz => by
  unfold dB8 at h
  rw [hz] at h
  simp at h
theorem nd_img (hW : WP L P) : ∀ c, c < 4096 → nd8 L P c ≠ 0 → ∃ n, n < 2401 ∧ eN n = c := fun c hc h => by
  refine W8_img hW hc (dB8_W (L := L) (P := P) ?_)
  cases hb : dB8 L P c with
  | true => rfl
  | false =>
    unfold nd8 at h
    rw [hb] at h
    exact absurd rfl h
theorem nd_pre (hW : WP L P) {n : Nat} (hn : n ≤ 2401) : zsm (nd8 L P) (eN n) = zsm (nd7 L P) n := by
  rw [zsm_eN (nd_img hW) n hn]
  exact zsm_congr fun i hi => nd_eN hW (by omega)
theorem nd_all (hW : WP L P) : zsm (nd8 L P) 4096 = zsm (nd7 L P) 2401 := zsm_same hW (fun c _ hz => by
  unfold nd8 dB8
  rw [hz]
  rfl) fun n hn => nd_eN hW hn
/-- what is told of a stand -/
def tS (L : Nat → Nat) (P : Nat → Nat → Nat) (q s : Nat) : Nat := if q < 4 then d7 s q else if q = 4 then msk fun t => decide (d7 s t < L t) else if q = 5 then len4 (d7 s) else or4 fun u => hx P u (d7 s u)
theorem nd_uniq {f : Nat → Nat} {a b i : Nat} (ha : f a = 1) (hb : f b = 1) (h1 : zsm f a = i) (h2 : zsm f b = i) : a = b := by
  have mono : ∀ c d, c ≤ d → zsm f c ≤ zsm f d := fun c d h => by
    induction h with
    | refl => exact Nat.le_refl _
    | step _ ih => exact Nat.le_trans ih (Nat.le_add_right _ _)
  rcases Nat.lt_trichotomy a b with q | q | q
  · have h3 := mono (a + 1) b q
    have h4 : zsm f (a + 1) = zsm f a + f a := rfl
    omega
  · exact q
  · have h3 := mono (b + 1) a q
    have h4 : zsm f (b + 1) = zsm f b + f b := rfl
    omega
end SM
