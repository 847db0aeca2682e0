/-! THE LAW's calls that fail change nothing. -/
section FL
theorem pb0 : yN (Int64.ofInt 0) = 0 := by decide +kernel
theorem pb1 : yN (32 : Int64) = 0 := by decide +kernel
theorem pb2 : yN (127 : Int64) = 0 := by decide +kernel
theorem pb3 : yN (3145776 : Int64) = 0 := by decide +kernel
theorem pb4 : yN (12288 : Int64) = 0 := by decide +kernel
theorem pbx : yN (120 : Int64) = 1 ∧ bt (120 : Int64) 0 = 120 := by decide +kernel
variable {g : Gst} {a : Nat → Nat}
theorem fails_302 (hG : GI g) (hp : g.1.1 = 0) {w : Wd} (hS : St w g a) (p : Nat) (hp31 : p < 2147483648) : Wn (x_L_fails 302 [zi (nI 1)] [some (zr 7 0), some (zi (nI g.2.2.1.2.1)), some (zi (nI p)), none] w) fun w' => ∃ g', St w' g' a ∧ GI g' ∧ g'.1.1 = 0 ∧ g'.2 = g.2 := by
  have hG2 : GI (putG g 120 1) := putG_GI hG (fun i hi => by rw [show i = 0 by omega, pbx.2]; omega) (by omega)
  have hL : (putG g 120 1).1.1 = 1 := by show g.1.1 + 1 = 1; omega
  have hnP : ¬ okP (putG g 120 1).1.1 (putG g 120 1).1.2 := fun h => by
    have := h.2.1
    rw [hL] at this
    omega
  have hnR : ¬ okR (putG g 120 1).1.1 (putG g 120 1).1.2 := fun h => by
    have h0 := h.2 0 (by rw [hL]; decide)
    have e : (putG g 120 1).1.2 0 = 120 := by
      show (if 0 < g.1.1 then g.1.2 0 else bt 120 (1 - 1 - (0 - g.1.1))) = 120
      rw [if_neg (by omega), show 1 - 1 - (0 - g.1.1) = 0 by omega, pbx.2]
    rw [e] at h0
    exact absurd h0 (by decide)
  rw [e_L_fails_302]
  refine Wn.neg (by decide) ?_
  refine Wn.call k_count6 hS fun w1 s1 => ?_
  refine Wn.pos rfl ?_
  refine Wn.neg (by rw [jlt0 hp31]; exact id) ?_
  refine Wn.call (k_put (y := 120) pbx.1 (by decide) (by omega)) s1 fun w2 s2 => ?_
  refine Wn.pos (show nI (g.1.1 + 1) = Int32.ofInt 1 by rw [hp]; rfl) ?_
  refine Wn.call (k_program_no hG2 hnP (by decide)) s2 fun w3 s3 => ?_
  refine Wn.pos rfl ?_
  refine Wn.call (k_keep_no hG2 hnR) s3 fun w4 s4 => ?_
  refine Wn.pos rfl ?_
  refine Wn.call (k_alike_no hG2 hnR) s4 fun w5 s5 => ?_
  refine Wn.pos rfl ?_
  refine Wn.call k_count6 s5 fun w6 s6 => ?_
  refine Wn.pos rfl ?_
  refine Wn.call k_wipe s6 fun w7 s7 => ?_
  refine Wn.pos (show nI (g.1.1 + 1) = Int32.ofInt 1 by rw [hp]; rfl) ?_
  exact Wn.one ⟨_, s7, wipG_GI hG2, rfl, rfl⟩
set_option maxHeartbeats 2000000 in
theorem m_fails (hG : GI g) {w : Wd} (hS : St w g a) : Wn (f_L_fails 0 w) fun w' => ∃ g', St w' g' a ∧ GI g' ∧ g'.1.1 = 0 ∧ g'.2 = g.2 := by
  have hG1 := wipG_GI hG
  have hp := hG.1.1
  rw [e_L_fails]
  refine Wn.call k_count6 hS fun w0 s0 => ?_
  refine Wn.call k_wipe s0 fun w1 s1 => ?_
  refine Wn.call (k_put_bad (y := Int64.ofInt 0) pb0) s1 fun w2 s2 => ?_
  refine Wn.pos rfl ?_
  refine Wn.call (k_put_bad (y := 32) pb1) s2 fun w3 s3 => ?_
  refine Wn.pos rfl ?_
  refine Wn.call (k_put_bad (y := 127) pb2) s3 fun w4 s4 => ?_
  refine Wn.pos rfl ?_
  refine Wn.call (k_put_bad (y := 3145776) pb3) s4 fun w5 s5 => ?_
  refine Wn.pos rfl ?_
  refine Wn.call (k_put_bad (y := 12288) pb4) s5 fun w6 s6 => ?_
  refine Wn.pos rfl ?_
  refine Wn.call (k_fault2) s6 fun w7 s7 => ?_
  refine Wn.pos rfl ?_
  refine Wn.call (k_fault_neg) s7 fun w8 s8 => ?_
  refine Wn.pos rfl ?_
  refine Wn.call (k_program_b (x := nI 4) (Or.inr ⟨4, by decide, rfl, by decide⟩)) s8 fun w9 s9 => ?_
  refine Wn.pos rfl ?_
  refine Wn.call (k_program_b (x := Int32.ofInt (-1)) (Or.inl (by decide))) s9 fun w10 s10 => ?_
  refine Wn.pos rfl ?_
  refine Wn.call (k_exch4 _) s10 fun w11 s11 => ?_
  refine Wn.pos rfl ?_
  refine Wn.call (k_exch_neg hG1) s11 fun w12 s12 => ?_
  refine Wn.pos rfl ?_
  refine Wn.call (k_exch5 hG1) s12 fun w13 s13 => ?_
  refine Wn.pos rfl ?_
  refine Wn.call (k_of_neg _ _) s13 fun w14 s14 => ?_
  refine Wn.pos rfl ?_
  refine Wn.call (k_of_no hG1 (t := 0) (s := 6) (by decide) (hG1.2.1.1 0 (by decide)).1 (by decide) _) s14 fun w15 s15 => ?_
  refine Wn.pos rfl ?_
  refine Wn.call (k_count9) s15 fun w16 s16 => ?_
  refine Wn.pos rfl ?_
  refine Wn.call (k_count_neg) s16 fun w17 s17 => ?_
  refine Wn.pos rfl ?_
  refine Wn.call (k_stands3 hG1) s17 fun w18 s18 => ?_
  refine Wn.pos rfl ?_
  refine Wn.call (k_dl_neg hG1 _) s18 fun w19 s19 => ?_
  refine Wn.pos rfl ?_
  refine Wn.call (k_runs2 hG1) s19 fun w20 s20 => ?_
  refine Wn.pos (show lg_cmp (-2 : Int64) (-2 : Int64) = 0 by decide) ?_
  refine Wn.call (k_slp3 hG1) s20 fun w21 s21 => ?_
  refine Wn.pos (show lg_cmp (-2 : Int64) (-2 : Int64) = 0 by decide) ?_
  refine Wn.call (k_way2) s21 fun w22 s22 => ?_
  refine Wn.pos rfl ?_
  refine Wn.call (k_without4) s22 fun w23 s23 => ?_
  refine Wn.pos rfl ?_
  refine Wn.call (k_least_neg) s23 fun w24 s24 => ?_
  refine Wn.pos rfl ?_
  refine Wn.call (k_lastW4 _) s24 fun w25 s25 => ?_
  refine Wn.pos rfl ?_
  refine Wn.call (k_lastW2) s25 fun w26 s26 => ?_
  refine Wn.pos rfl ?_
  refine Wn.call (k_save2) s26 fun w27 s27 => ?_
  refine Wn.pos rfl ?_
  refine Wn.call (k_restore_neg) s27 fun w28 s28 => ?_
  refine Wn.pos rfl ?_
  exact fails_302 hG1 rfl s28 g.1.1 (by omega)
end FL
