/-! save and restore alike. -/
section SR
theorem v_isSlot_b {x : Int32} (h : x < 0 ∨ ∃ q, q < 2147483648 ∧ x = nI q ∧ 2 ≤ q) (w : Wd) : f_X7_isSlot x w = some (nI 0, w) := by
  rcases h with h | ⟨q, hq, rfl, h4⟩
  · exact v_isSlot_neg h w
  · rw [v_isSlot hq, if_neg (by omega)]
theorem u_slot_b {x : Int32} (h : x < 0 ∨ ∃ q, q < 2147483648 ∧ x = nI q ∧ 2 ≤ q) (w : Wd) : f_X8_in x (nI 0) (nI 1) w = some (nI 0, w) := by
  rcases h with h | ⟨q, hq, rfl, h4⟩
  · exact u_in_neg h _ _
  · rw [u_in_n hq (by decide), if_neg (by omega)]
theorem fm_set (f : Nat → Bool) {q : Nat} (hq : q < 2) : fm f ||| 2 ^ q = fm (fun j => if j = q then true else f j) := by
  unfold fm
  rcases (show q = 0 ∨ q = 1 by omega) with rfl | rfl
  · show ((if f 0 = true then 1 else 0) ||| (if f 1 = true then 2 else 0)) ||| 1 = 1 ||| (if f 1 = true then 2 else 0)
    cases f 0 <;> cases f 1 <;> decide
  · show ((if f 0 = true then 1 else 0) ||| (if f 1 = true then 2 else 0)) ||| 2 = (if f 0 = true then 1 else 0) ||| 2
    cases f 0 <;> cases f 1 <;> decide
theorem fm_lt (f : Nat → Bool) : fm f < 4 := by
  unfold fm
  cases f 0 <;> cases f 1 <;> decide
theorem fm_bit (f : Nat → Bool) {q : Nat} (hq : q < 2) : (fm f / 2 ^ q % 2 = 0) = (f q = false) := by
  unfold fm
  rcases (show q = 0 ∨ q = 1 by omega) with rfl | rfl <;> cases f 0 <;> cases f 1 <;> simp
def savG (g : Gst) (q : Nat) : Gst := (g.1, g.2.1, g.2.2.1, (fun j => if j = q then g.2.1 else g.2.2.2.1 j, fun j => if j = q then true else g.2.2.2.2 j))
theorem a2_save (x : Int32) : A2 (f_X7_save 0 x) (f_X8_save 0 x) := fun g w wm hG hC hM => by
  rcases jsml x 2 with hx | ⟨q, hq, hq31, rfl⟩
  · refine ⟨Int32.ofInt (-2), w, g, wm, ?_, Fr.rf, hG, hC, ?_, Fr.rf, hM⟩
    · rw [e_X7_save, v_isSlot_b hx, joc, if_pos (by rfl)]
    · rw [e_X8_save]
      simp only [jl]
      rw [u_slot_b hx, joc, if_pos (by rfl)]
  · have hV := hG.2.1
    obtain ⟨w1, a1, a2, a3⟩ := v_copyX (k0 := 7 + q) (k1 := 0) (by omega) hV hC.1.2.1
    have fx := sub_SX0 (k := 7 + q) (by omega)
    have f2 : Fr (S1 22 0) w1 (wI w1 22 0 q (nI 1)) := Fr.rf.wI (by decide)
    have ff : Fr SCl w (wI w1 22 0 q (nI 1)) := (a2.sub fx).tr (f2.sub (sub_S1 rfl))
    obtain ⟨m1, b1, b2, b3, b4⟩ := u_copies (k0 := 0) (k2 := 2) (a := 0) (b := 53 * q) (by decide) (by decide) (by show 53 * q + 53 ≤ 106; omega) wm
    have f3 : Fr (S1 8 0) m1 (wI m1 8 0 4 (nI (fm (savG g q).2.2.2.2))) := Fr.rf.wI (by decide)
    have hw0 : XS (wI w1 22 0 q (nI 1)) 0 g.2.1 := by
      obtain ⟨c1, c2, c3, c4⟩ := SXg_k (k := 7 + q) (j := 0) (by omega)
      exact XS_fr f2 rfl rfl rfl rfl (XS_fr a2 c1 c2 c3 c4 hC.1.2.1)
    have hm0 : MS (wI m1 8 0 4 (nI (fm (savG g q).2.2.2.2))) 0 0 g.2.1 := MS_fr f3 rfl (MS_fr b2 rfl hM.2.1)
    refine ⟨nI (g.2.1.1 0 + g.2.1.1 1 + g.2.1.1 2 + g.2.1.1 3), wI w1 22 0 q (nI 1), savG g q, wI m1 8 0 4 (nI (fm (savG g q).2.2.2.2)), ?_, ff, ⟨hG.1, hV, hG.2.2.1, fun j hj hb => ?_⟩, ⟨⟨⟨by rw [(f2 1 0 rfl).1, (a2 1 0 rfl).1]; exact hC.1.1.1, fun i hi => by rw [(f2 10 0 rfl).1, (a2 10 0 rfl).1]; exact hC.1.1.2 i hi⟩, hw0, ⟨by rw [(f2 0 0 rfl).1, (a2 0 0 rfl).1]; exact hC.1.2.2.1.1, by rw [(f2 0 0 rfl).1, (a2 0 0 rfl).1]; exact hC.1.2.2.1.2.1, fun i hi => ?_⟩, fun j hj => ⟨?_, fun hb => ?_⟩⟩, CS_fr f2 rfl rfl rfl rfl rfl rfl (CS_x (by omega) a2 hC.2)⟩, ?_, ?_, ⟨⟨?_, fun i hi => by rw [(f3 31 0 rfl).1, (b2 31 0 rfl).1]; exact hM.1.2 i hi⟩, hm0, ⟨?_, fun i hi => MS_fr f3 rfl (MS_fr b2 rfl (hM.2.2.1.2 i hi))⟩, ?_, fun j hj hb => ?_⟩⟩
    · rw [e_X7_save, v_isSlot hq31, joc, if_pos hq, if_neg (show ¬ nI 1 = (0 : Int32) by decide)]
      simp (disch := omega) only [jchk, jcl, a1, joc, jl, jzb1]
      rw [v_allSteps hw0.1, joc]
    · show SV (if j = q then g.2.1 else g.2.2.2.1 j)
      by_cases e : j = q
      · rw [if_pos e]; exact hV
      · rw [if_neg e]
        have hb : (if j = q then true else g.2.2.2.2 j) = true := hb
        rw [if_neg e] at hb
        exact hG.2.2.2 j hj hb
    · have : (g.2.2.1.2.2 + i) % 6 < 6 := Nat.mod_lt _ (by decide)
      obtain ⟨c1, c2, c3, c4⟩ := SXg_k (k := 7 + q) (j := 1 + (g.2.2.1.2.2 + i) % 6) (by omega)
      exact XS_fr f2 rfl rfl rfl rfl (XS_fr a2 c1 c2 c3 c4 (hC.1.2.2.1.2.2 i hi))
    · show _ = nI (if (if j = q then true else g.2.2.2.2 j) = true then 1 else 0)
      rw [jw1]
      by_cases e : j = q
      · rw [if_pos ⟨rfl, rfl, e⟩, if_pos e, if_pos rfl]
      · rw [if_neg (fun z => e z.2.2), if_neg e, (a2 22 0 rfl).1]
        exact (hC.1.2.2.2 j hj).1
    · show XS _ (7 + j) (if j = q then g.2.1 else g.2.2.2.1 j)
      have hb : (if j = q then true else g.2.2.2.2 j) = true := hb
      by_cases e : j = q
      · rw [if_pos e, e]
        exact XS_fr f2 rfl rfl rfl rfl a3
      · rw [if_neg e] at hb ⊢
        obtain ⟨c1, c2, c3, c4⟩ := SXg_k (k := 7 + q) (j := 7 + j) (by omega)
        exact XS_fr f2 rfl rfl rfl rfl (XS_fr a2 c1 c2 c3 c4 ((hC.1.2.2.2 j hj).2 hb))
    · have e4 : m1.1 8 0 4 = nI (fm g.2.2.2.2) := by rw [(b2 8 0 rfl).1]; exact hM.2.2.2.1
      have h2 : 2 ^ q ≤ 2 ^ 1 := Nat.pow_le_pow_right (by decide) (by omega)
      rw [e_X8_save]
      simp (disch := omega) only [jl, jmul]
      rw [u_in_n hq31 (by decide), joc, if_pos (show q ≤ 1 by omega), if_neg (show ¬ nI 1 = (0 : Int32) by decide), b1, joc, e4]
      simp (disch := omega) only [jshl, Nat.one_mul, jor, fm_set _ hq]
      show (oC (f_X8_stepsAll 0 (wI m1 8 0 4 (nI (fm (savG g q).2.2.2.2)))) fun q3 => some (q3.1, q3.2)) = _
      rw [u_stepsAll hm0.1, joc]
    · exact (b2.sub (sub_S1 rfl)).tr (f3.sub (sub_S1 rfl))
    · rw [jw1, if_neg (by omega), (b2 8 0 rfl).1]
      exact hM.1.1
    · rw [jw1, if_neg (by omega), (b2 8 0 rfl).1]
      exact hM.2.2.1.1
    · rw [jw1, if_pos ⟨rfl, rfl, rfl⟩]
    · show MS _ 2 (53 * j) (if j = q then g.2.1 else g.2.2.2.1 j)
      have hb : (if j = q then true else g.2.2.2.2 j) = true := hb
      refine MS_fr f3 rfl ?_
      by_cases e : j = q
      · rw [if_pos e, e]
        exact MS_mv hV b3 hM.2.1
      · rw [if_neg e] at hb ⊢
        refine MS_mv (hG.2.2.2 j hj hb) (fun i hi => ?_) (hM.2.2.2.2 j hj hb)
        rw [b4 _ (by omega)]
theorem MI_rec {g : Gst} {wm wm' : Wd} (hM : MI wm g) (hf : Fr SRc wm wm') (h8 : S802 wm wm') (h2 : wm'.1 8 0 2 = nI (recG g).2.2.1.2.1) (hh : ∀ i, i < (recG g).2.2.1.2.1 → MS wm' 1 (53 * i) ((recG g).2.2.1.1 i)) : MI wm' (recG g) :=
  ⟨⟨by rw [h8.1 7 (by decide)]; exact hM.1.1, fun i hi => by rw [(hf 31 0 rfl).1]; exact hM.1.2 i hi⟩, MS_fr hf rfl hM.2.1, ⟨h2, hh⟩, by rw [h8.1 4 (by decide)]; exact hM.2.2.2.1, fun j hj hb => MS_fr hf rfl (hM.2.2.2.2 j hj hb)⟩
theorem sub_SRc : sub SRc SMd := sub_S2 (sub_S1 rfl) (sub_S1 rfl)
theorem a2_restore (x : Int32) : A2 (f_X7_restore 0 x) (f_X8_restore 0 x) := fun g w wm hG hC hM => by
  rcases jsml x 2 with hx | ⟨q, hq, hq31, rfl⟩
  · refine ⟨Int32.ofInt (-2), w, g, wm, ?_, Fr.rf, hG, hC, ?_, Fr.rf, hM⟩
    · rw [e_X7_restore, v_isSlot_b hx, joc, if_pos (by rfl)]
    · rw [e_X8_restore]
      simp only [jl]
      rw [u_slot_b hx, joc, if_pos (by rfl)]
  · have hfl := (hC.1.2.2.2 q hq).1
    have h4 := fm_lt g.2.2.2.2
    have hdv : fm g.2.2.2.2 / 2 ^ q < 2147483648 := Nat.lt_of_le_of_lt (Nat.div_le_self _ _) (by omega)
    have hmd : fm g.2.2.2.2 / 2 ^ q % 2 < 2 := Nat.mod_lt _ (by decide)
    have m0 : f_X8_restore 0 (nI q) wm = (if g.2.2.2.2 q = false then (some ((Int32.ofInt (-5)), wm)) else (oC (f_X8_records 0 0 wm) fun q2 => (oC (f_X8_copies 2 (nI (53 * q)) 0 (nI 0) q2) fun q3 => (oC (f_X8_stepsAll 0 q3) fun q4 => (some (q4.1, q4.2)))))) := by
      rw [e_X8_restore]
      simp (disch := omega) only [jl, jmul]
      rw [u_in_n hq31 (by decide), joc, if_pos (show q ≤ 1 by omega), if_neg (show ¬ nI 1 = (0 : Int32) by decide)]
      simp (disch := omega) only [hM.2.2.2.1, jshr, jand, Nat.and_one_is_mod, jeq0, fm_bit _ hq]
    have c0 : f_X7_restore 0 (nI q) w = (if g.2.2.2.2 q = false then (some ((Int32.ofInt (-5)), w)) else (oC (f_X0_record 0 0 w) fun q2 => (chk (nI q) 2 (oC (f_X6_copyFrom 0 (7 + q) q2) fun q3 => (oC (f_X2_allSteps 0 q3) fun q4 => (some (q4.1, q4.2))))))) := by
      rw [e_X7_restore, v_isSlot hq31, joc, if_pos hq, if_neg (show ¬ nI 1 = (0 : Int32) by decide)]
      simp (disch := omega) only [jchk, jcl, hfl, j01]
    cases hb : g.2.2.2.2 q with
    | false =>
      exact ⟨Int32.ofInt (-5), w, g, wm, by rw [c0, if_pos hb], Fr.rf, hG, hC, by rw [m0, if_pos hb], Fr.rf, hM⟩
    | true =>
      have hVs := hG.2.2.2 q hq hb
      have hn : ¬ g.2.2.2.2 q = false := by rw [hb]; decide
      obtain ⟨w1, a1, a2, a3⟩ := v_record hG hC.1
      obtain ⟨w2, b1, b2, b3, -⟩ := v_take (g := recG g) (k := 7 + q) (by omega) (by omega) ⟨a3, CS_h a2 hC.2⟩ hVs ((a3.2.2.2 q hq).2 hb)
      obtain ⟨m1, c1, c2, c3, c4, c5⟩ := u_records (k1 := 0) (Or.inl rfl) hG hM.2.1 hM.2.2.1.1 hM.2.2.1.2
      have hM1 := MI_rec hM c2 c3 c4 c5
      obtain ⟨m2, d1, d2, d3⟩ := u_take (g := recG g) (k := 2) (a := 53 * q) (by decide) (by show 53 * q + 53 ≤ 106; omega) hM1 hVs (hM1.2.2.2.2 q hq hb)
      have hGr := recG_GI hG
      refine ⟨nI ((g.2.2.2.1 q).1 0 + (g.2.2.2.1 q).1 1 + (g.2.2.2.1 q).1 2 + (g.2.2.2.1 q).1 3), w2, ((recG g).1, g.2.2.2.1 q, (recG g).2.2), m2, ?_, (a2.sub sub_SHs).tr b2, ⟨hGr.1, hVs, hGr.2.2.1, hGr.2.2.2⟩, b3, ?_, (c2.sub sub_SRc).tr (d2.sub (sub_S1 rfl)), d3⟩
      · rw [c0, if_neg hn, a1, joc, jchk hq (by decide), b1, joc, v_allSteps b3.1.2.1.1, joc]
      · rw [m0, if_neg hn, c1, joc, d1, joc, u_stepsAll (MI_RQ d3), joc]
end SR
