/-! A run of the executor, whole. -/
section RUN
variable {p : Program} {l : Launch} {e : Env} {R : Room} {s : State} {m : MethodId} {args : Array Value} {below : List Frame} {meth : Method} {c : Code} {cells slots : Nat} {Q : State → Prop} {cc : ByteArray} {nL : Nat} {own : String} {Ts : List Cond} {D : va_G} {ad : Nat → Nat → Nat} {cA : Nat → ClassId} {A : Nat → Prop}
set_option maxHeartbeats 8000000 in
theorem zstp_sound {ρ : Type} {X : ρ} {cF : List (Nat × Nat × Nat)} {cL : List (Nat × Int64)} {cM : List (Nat × Nat × ZCall ρ)} {ret : Option ZV → Wd → Option ρ} {i : Instr} {len tgt : Nat} {sw : List (Int × Nat)} {st : List ZV} {lo : Lo} {w : Wd} {K : List ZV → Lo → Wd → Option ρ} {J : ZJ ρ} {pc : Nat}
    (hF : zMF p s m args c cc nL own Ts D ad cA A) (hd : decode cc pc = .ok (i, len)) (hc : zdc i len tgt sw nL pc = true) (hcF : zFl own cF) (hcL : zLl own cL)
    (hcM : zMl (zCk p l e R s m args below meth c cells slots Q cc nL D ad cA A X) cM) (hR : zRt p l e R s m args below meth c cells slots Q cc nL D ad cA A X ret)
    (hK : ∀ st lo w, K st lo w = some X → zAt p l e R s m args below meth c cells slots Q nL D ad cA A (pc + len) st lo w) (hJ : ∀ pc st lo w, J pc st lo w = some X → zAt p l e R s m args below meth c cells slots Q nL D ad cA A pc st lo w)
    (h : zstp cF cL cM ret i tgt sw st lo w K J = some X) : zAt p l e R s m args below meth c cells slots Q nL D ad cA A pc st lo w := by
  obtain ⟨hx, hb, hml, hown, hts, hT, -, -, -⟩ := id hF
  have W0 : ∀ w ∈ zW0, w.before args s = true := fun w h => hts w (hT w h)
  cases i
  case iconst n =>
    simp only [zstp] at h
    have hl : len = 1 := Nat.eq_of_beq_eq_true hc
    subst hl
    intro hv hvl H locs ls hP hS hL
    exact lv_iconst hx hb hd rfl (hK _ _ _ h (zv_cons trivial hv) hvl H locs ls hP hS hL)
  case bipush n =>
    simp only [zstp] at h
    simp only [zdc, Bool.and_eq_true, decide_eq_true_eq] at hc
    have hl : len = 2 := Nat.eq_of_beq_eq_true hc.1.1
    subst hl
    intro hv hvl H locs ls hP hS hL
    exact lv_bipush hx hb hd (zi8 hc.1.2 hc.2) (hK _ _ _ h (zv_cons trivial hv) hvl H locs ls hP hS hL)
  case sipush n =>
    simp only [zstp] at h
    simp only [zdc, Bool.and_eq_true, decide_eq_true_eq] at hc
    have hl : len = 3 := Nat.eq_of_beq_eq_true hc.1.1
    subst hl
    intro hv hvl H locs ls hP hS hL
    exact lv_sipush hx hb hd (zi16 hc.1.2 hc.2) (hK _ _ _ h (zv_cons trivial hv) hvl H locs ls hP hS hL)
  case lconst n =>
    simp only [zstp] at h
    have hl : len = 1 := Nat.eq_of_beq_eq_true hc
    subst hl
    intro hv hvl H locs ls hP hS hL
    exact lv_lconst hx hb hd (zl2 n) (hK _ _ _ h (zv_cons trivial hv) hvl H locs ls hP hS hL)
  case ldc2_w k =>
    simp only [zstp] at h
    have hl : len = 3 := Nat.eq_of_beq_eq_true hc
    subst hl
    obtain ⟨v, hv1, h1_⟩ := oB_inv h
    intro hv hvl H locs ls hP hS hL
    exact lv_ldc2 hx hb hown (W0 _ (zLw_l (hcL _ (zop_mem hv1)))) hd (hK _ _ _ h1_ (zv_cons trivial hv) hvl H locs ls hP hS hL)
  case ldc k =>
    simp only [zstp] at h
    have hl : len = 2 := Nat.eq_of_beq_eq_true hc
    subst hl
    obtain ⟨v, hv1, h1_⟩ := oB_inv h
    intro hv hvl H locs ls hP hS hL
    exact lv_ldc hx hb hown (W0 _ (zLw_i (hcL _ (zop_mem hv1)))) hd (hK _ _ _ h1_ (zv_cons trivial hv) hvl H locs ls hP hS hL)
  case iload k =>
    simp only [zstp] at h
    have hl : len = 2 := Nat.eq_of_beq_eq_true hc
    subst hl
    obtain ⟨x, hg, h1_⟩ := gI_inv h
    intro hv hvl H locs ls hP hS hL
    exact lv_iload hx hb hd (hL.at hg) (hK _ _ _ h1_ (zv_cons trivial hv) hvl H locs ls hP hS hL)
  case iload_n k =>
    simp only [zstp] at h
    have hl : len = 1 := Nat.eq_of_beq_eq_true hc
    subst hl
    obtain ⟨x, hg, h1_⟩ := gI_inv h
    intro hv hvl H locs ls hP hS hL
    exact lv_iload_n hx hb hd rfl (hL.at hg) (hK _ _ _ h1_ (zv_cons trivial hv) hvl H locs ls hP hS hL)
  case lload k =>
    simp only [zstp] at h
    have hl : len = 2 := Nat.eq_of_beq_eq_true hc
    subst hl
    obtain ⟨x, hg, h1_⟩ := gL_inv h
    intro hv hvl H locs ls hP hS hL
    exact lv_lload hx hb hd (hL.at hg) (hK _ _ _ h1_ (zv_cons trivial hv) hvl H locs ls hP hS hL)
  case lload_n k =>
    simp only [zstp] at h
    have hl : len = 1 := Nat.eq_of_beq_eq_true hc
    subst hl
    obtain ⟨x, hg, h1_⟩ := gL_inv h
    intro hv hvl H locs ls hP hS hL
    exact lv_lload_n hx hb hd rfl (hL.at hg) (hK _ _ _ h1_ (zv_cons trivial hv) hvl H locs ls hP hS hL)
  case aload k =>
    simp only [zstp] at h
    have hl : len = 2 := Nat.eq_of_beq_eq_true hc
    subst hl
    obtain ⟨t, i, hg, h1_⟩ := gR_inv h
    intro hv hvl H locs ls hP hS hL
    exact lv_aload hx hb hd (hL.at hg) (hK _ _ _ h1_ (zv_cons (hvl _ _ hg) hv) hvl H locs ls hP hS hL)
  case aload_n k =>
    simp only [zstp] at h
    have hl : len = 1 := Nat.eq_of_beq_eq_true hc
    subst hl
    obtain ⟨t, i, hg, h1_⟩ := gR_inv h
    intro hv hvl H locs ls hP hS hL
    exact lv_aload_n hx hb hd rfl (hL.at hg) (hK _ _ _ h1_ (zv_cons (hvl _ _ hg) hv) hvl H locs ls hP hS hL)
  case istore k =>
    simp only [zstp] at h
    simp only [zdc, Bool.and_eq_true, decide_eq_true_eq] at hc
    have hl : len = 2 := Nat.eq_of_beq_eq_true hc.1
    subst hl
    have hlt := Nat.blt_eq.mp hc.2
    obtain ⟨x, r, rfl, h1_⟩ := pI_inv h
    intro hv hvl H locs ls hP hS hL
    obtain ⟨lv, hl1, hl2⟩ := hL
    exact lv_istore hx hb hd hl1 hlt rfl fun ls' hl' => hK _ _ _ h1_ (zv_tl hv) (zst1_val hvl trivial) H locs ls' hP hS ⟨_, hl', zst1_mem hl2 k (zi x)⟩
  case istore_n k =>
    simp only [zstp] at h
    simp only [zdc, Bool.and_eq_true, decide_eq_true_eq] at hc
    have hl : len = 1 := Nat.eq_of_beq_eq_true hc.1
    subst hl
    have hlt := Nat.blt_eq.mp hc.2
    obtain ⟨x, r, rfl, h1_⟩ := pI_inv h
    intro hv hvl H locs ls hP hS hL
    obtain ⟨lv, hl1, hl2⟩ := hL
    exact lv_istore_n hx hb hd rfl hl1 hlt rfl fun ls' hl' => hK _ _ _ h1_ (zv_tl hv) (zst1_val hvl trivial) H locs ls' hP hS ⟨_, hl', zst1_mem hl2 k.val (zi x)⟩
  case lstore k =>
    simp only [zstp] at h
    simp only [zdc, Bool.and_eq_true, decide_eq_true_eq] at hc
    have hl : len = 2 := Nat.eq_of_beq_eq_true hc.1
    subst hl
    have hlt := Nat.blt_eq.mp hc.2
    obtain ⟨x, r, rfl, h1_⟩ := pL_inv h
    intro hv hvl H locs ls hP hS hL
    obtain ⟨lv, hl1, hl2⟩ := hL
    exact lv_lstore hx hb hd hl1 hlt rfl fun ls' hl' => hK _ _ _ h1_ (zv_tl hv) (zst2_val hvl trivial) H locs ls' hP hS ⟨_, hl', zst2_mem hl2 k (zl x)⟩
  case lstore_n k =>
    simp only [zstp] at h
    simp only [zdc, Bool.and_eq_true, decide_eq_true_eq] at hc
    have hl : len = 1 := Nat.eq_of_beq_eq_true hc.1
    subst hl
    have hlt := Nat.blt_eq.mp hc.2
    obtain ⟨x, r, rfl, h1_⟩ := pL_inv h
    intro hv hvl H locs ls hP hS hL
    obtain ⟨lv, hl1, hl2⟩ := hL
    exact lv_lstore_n hx hb hd rfl hl1 hlt rfl fun ls' hl' => hK _ _ _ h1_ (zv_tl hv) (zst2_val hvl trivial) H locs ls' hP hS ⟨_, hl', zst2_mem hl2 k.val (zl x)⟩
  case astore k =>
    simp only [zstp] at h
    simp only [zdc, Bool.and_eq_true, decide_eq_true_eq] at hc
    have hl : len = 2 := Nat.eq_of_beq_eq_true hc.1
    subst hl
    have hlt := Nat.blt_eq.mp hc.2
    obtain ⟨t, i, r, rfl, h1_⟩ := pR_inv h
    intro hv hvl H locs ls hP hS hL
    obtain ⟨lv, hl1, hl2⟩ := hL
    exact lv_astore hx hb hd hl1 hlt rfl fun ls' hl' => hK _ _ _ h1_ (zv_tl hv) (zst1_val hvl (zv_hd hv)) H locs ls' hP hS ⟨_, hl', zst1_mem hl2 k (zr t i)⟩
  case astore_n k =>
    simp only [zstp] at h
    simp only [zdc, Bool.and_eq_true, decide_eq_true_eq] at hc
    have hl : len = 1 := Nat.eq_of_beq_eq_true hc.1
    subst hl
    have hlt := Nat.blt_eq.mp hc.2
    obtain ⟨t, i, r, rfl, h1_⟩ := pR_inv h
    intro hv hvl H locs ls hP hS hL
    obtain ⟨lv, hl1, hl2⟩ := hL
    exact lv_astore_n hx hb hd rfl hl1 hlt rfl fun ls' hl' => hK _ _ _ h1_ (zv_tl hv) (zst1_val hvl (zv_hd hv)) H locs ls' hP hS ⟨_, hl', zst1_mem hl2 k.val (zr t i)⟩
  case iinc k n =>
    simp only [zstp] at h
    simp only [zdc, Bool.and_eq_true, decide_eq_true_eq] at hc
    have hl : len = 3 := Nat.eq_of_beq_eq_true hc.1
    subst hl
    have hlt := Nat.blt_eq.mp hc.2
    obtain ⟨x, hg, h1_⟩ := gI_inv h
    intro hv hvl H locs ls hP hS hL
    obtain ⟨lv, hl1, hl2⟩ := hL
    obtain ⟨j, hj⟩ := List.getElem?_of_mem (hl2 _ _ hg)
    exact lv_iinc (v := x + Int32.ofInt n) hx hb hd hl1 hj rfl hlt rfl fun ls' hl' => hK _ _ _ h1_ hv (zst1_val hvl trivial) H locs ls' hP hS ⟨_, hl', zst1_mem hl2 k (zi (x + Int32.ofInt n))⟩
  case iadd =>
    simp only [zstp] at h
    have hl : len = 1 := Nat.eq_of_beq_eq_true hc
    subst hl
    obtain ⟨y, r, rfl, h1_⟩ := pI_inv h
    obtain ⟨x, r, rfl, h2_⟩ := pI_inv h1_
    intro hv hvl H locs ls hP hS hL
    exact lv_iadd hx hb hd (hK _ _ _ h2_ (zv_cons trivial (zv_tl (zv_tl hv))) hvl H locs ls hP hS hL)
  case isub =>
    simp only [zstp] at h
    have hl : len = 1 := Nat.eq_of_beq_eq_true hc
    subst hl
    obtain ⟨y, r, rfl, h1_⟩ := pI_inv h
    obtain ⟨x, r, rfl, h2_⟩ := pI_inv h1_
    intro hv hvl H locs ls hP hS hL
    exact lv_isub hx hb hd (hK _ _ _ h2_ (zv_cons trivial (zv_tl (zv_tl hv))) hvl H locs ls hP hS hL)
  case imul =>
    simp only [zstp] at h
    have hl : len = 1 := Nat.eq_of_beq_eq_true hc
    subst hl
    obtain ⟨y, r, rfl, h1_⟩ := pI_inv h
    obtain ⟨x, r, rfl, h2_⟩ := pI_inv h1_
    intro hv hvl H locs ls hP hS hL
    exact lv_imul hx hb hd (hK _ _ _ h2_ (zv_cons trivial (zv_tl (zv_tl hv))) hvl H locs ls hP hS hL)
  case iand =>
    simp only [zstp] at h
    have hl : len = 1 := Nat.eq_of_beq_eq_true hc
    subst hl
    obtain ⟨y, r, rfl, h1_⟩ := pI_inv h
    obtain ⟨x, r, rfl, h2_⟩ := pI_inv h1_
    intro hv hvl H locs ls hP hS hL
    exact lv_iand hx hb hd (hK _ _ _ h2_ (zv_cons trivial (zv_tl (zv_tl hv))) hvl H locs ls hP hS hL)
  case ior =>
    simp only [zstp] at h
    have hl : len = 1 := Nat.eq_of_beq_eq_true hc
    subst hl
    obtain ⟨y, r, rfl, h1_⟩ := pI_inv h
    obtain ⟨x, r, rfl, h2_⟩ := pI_inv h1_
    intro hv hvl H locs ls hP hS hL
    exact lv_ior hx hb hd (hK _ _ _ h2_ (zv_cons trivial (zv_tl (zv_tl hv))) hvl H locs ls hP hS hL)
  case ixor =>
    simp only [zstp] at h
    have hl : len = 1 := Nat.eq_of_beq_eq_true hc
    subst hl
    obtain ⟨y, r, rfl, h1_⟩ := pI_inv h
    obtain ⟨x, r, rfl, h2_⟩ := pI_inv h1_
    intro hv hvl H locs ls hP hS hL
    exact lv_ixor hx hb hd (hK _ _ _ h2_ (zv_cons trivial (zv_tl (zv_tl hv))) hvl H locs ls hP hS hL)
  case ishl =>
    simp only [zstp] at h
    have hl : len = 1 := Nat.eq_of_beq_eq_true hc
    subst hl
    obtain ⟨y, r, rfl, h1_⟩ := pI_inv h
    obtain ⟨x, r, rfl, h2_⟩ := pI_inv h1_
    intro hv hvl H locs ls hP hS hL
    exact lv_ishl hx hb hd (hK _ _ _ h2_ (zv_cons trivial (zv_tl (zv_tl hv))) hvl H locs ls hP hS hL)
  case ishr =>
    simp only [zstp] at h
    have hl : len = 1 := Nat.eq_of_beq_eq_true hc
    subst hl
    obtain ⟨y, r, rfl, h1_⟩ := pI_inv h
    obtain ⟨x, r, rfl, h2_⟩ := pI_inv h1_
    intro hv hvl H locs ls hP hS hL
    exact lv_ishr hx hb hd (hK _ _ _ h2_ (zv_cons trivial (zv_tl (zv_tl hv))) hvl H locs ls hP hS hL)
  case ladd =>
    simp only [zstp] at h
    have hl : len = 1 := Nat.eq_of_beq_eq_true hc
    subst hl
    obtain ⟨y, r, rfl, h1_⟩ := pL_inv h
    obtain ⟨x, r, rfl, h2_⟩ := pL_inv h1_
    intro hv hvl H locs ls hP hS hL
    exact lv_ladd hx hb hd (hK _ _ _ h2_ (zv_cons trivial (zv_tl (zv_tl hv))) hvl H locs ls hP hS hL)
  case lsub =>
    simp only [zstp] at h
    have hl : len = 1 := Nat.eq_of_beq_eq_true hc
    subst hl
    obtain ⟨y, r, rfl, h1_⟩ := pL_inv h
    obtain ⟨x, r, rfl, h2_⟩ := pL_inv h1_
    intro hv hvl H locs ls hP hS hL
    exact lv_lsub hx hb hd (hK _ _ _ h2_ (zv_cons trivial (zv_tl (zv_tl hv))) hvl H locs ls hP hS hL)
  case lmul =>
    simp only [zstp] at h
    have hl : len = 1 := Nat.eq_of_beq_eq_true hc
    subst hl
    obtain ⟨y, r, rfl, h1_⟩ := pL_inv h
    obtain ⟨x, r, rfl, h2_⟩ := pL_inv h1_
    intro hv hvl H locs ls hP hS hL
    exact lv_lmul hx hb hd (hK _ _ _ h2_ (zv_cons trivial (zv_tl (zv_tl hv))) hvl H locs ls hP hS hL)
  case land =>
    simp only [zstp] at h
    have hl : len = 1 := Nat.eq_of_beq_eq_true hc
    subst hl
    obtain ⟨y, r, rfl, h1_⟩ := pL_inv h
    obtain ⟨x, r, rfl, h2_⟩ := pL_inv h1_
    intro hv hvl H locs ls hP hS hL
    exact lv_land hx hb hd (hK _ _ _ h2_ (zv_cons trivial (zv_tl (zv_tl hv))) hvl H locs ls hP hS hL)
  case lor =>
    simp only [zstp] at h
    have hl : len = 1 := Nat.eq_of_beq_eq_true hc
    subst hl
    obtain ⟨y, r, rfl, h1_⟩ := pL_inv h
    obtain ⟨x, r, rfl, h2_⟩ := pL_inv h1_
    intro hv hvl H locs ls hP hS hL
    exact lv_lor hx hb hd (hK _ _ _ h2_ (zv_cons trivial (zv_tl (zv_tl hv))) hvl H locs ls hP hS hL)
  case lushr =>
    simp only [zstp] at h
    have hl : len = 1 := Nat.eq_of_beq_eq_true hc
    subst hl
    obtain ⟨y, r, rfl, h1_⟩ := pI_inv h
    obtain ⟨x, r, rfl, h2_⟩ := pL_inv h1_
    intro hv hvl H locs ls hP hS hL
    exact lv_lushr hx hb hd rfl (hK _ _ _ h2_ (zv_cons trivial (zv_tl (zv_tl hv))) hvl H locs ls hP hS hL)
  case lshl =>
    simp only [zstp] at h
    have hl : len = 1 := Nat.eq_of_beq_eq_true hc
    subst hl
    obtain ⟨y, r, rfl, h1_⟩ := pI_inv h
    obtain ⟨x, r, rfl, h2_⟩ := pL_inv h1_
    intro hv hvl H locs ls hP hS hL
    exact lv_lshl hx hb hd rfl (hK _ _ _ h2_ (zv_cons trivial (zv_tl (zv_tl hv))) hvl H locs ls hP hS hL)
  case lcmp =>
    simp only [zstp] at h
    have hl : len = 1 := Nat.eq_of_beq_eq_true hc
    subst hl
    obtain ⟨y, r, rfl, h1_⟩ := pL_inv h
    obtain ⟨x, r, rfl, h2_⟩ := pL_inv h1_
    intro hv hvl H locs ls hP hS hL
    exact W.lcmp hx hb hd (hK _ _ _ h2_ (zv_cons trivial (zv_tl (zv_tl hv))) hvl H locs ls hP hS hL)
  case idiv =>
    simp only [zstp] at h
    have hl : len = 1 := Nat.eq_of_beq_eq_true hc
    subst hl
    obtain ⟨y, r, rfl, h1_⟩ := pI_inv h
    obtain ⟨x, r, rfl, h2_⟩ := pI_inv h1_
    split at h2_
    · cases h2_
    · rename_i hy
      intro hv hvl H locs ls hP hS hL
      exact lv_idiv hx hb hd hy (hK _ _ _ h2_ (zv_cons trivial (zv_tl (zv_tl hv))) hvl H locs ls hP hS hL)
  case irem =>
    simp only [zstp] at h
    have hl : len = 1 := Nat.eq_of_beq_eq_true hc
    subst hl
    obtain ⟨y, r, rfl, h1_⟩ := pI_inv h
    obtain ⟨x, r, rfl, h2_⟩ := pI_inv h1_
    split at h2_
    · cases h2_
    · rename_i hy
      intro hv hvl H locs ls hP hS hL
      exact lv_irem hx hb hd hy (hK _ _ _ h2_ (zv_cons trivial (zv_tl (zv_tl hv))) hvl H locs ls hP hS hL)
  case i2l =>
    simp only [zstp] at h
    have hl : len = 1 := Nat.eq_of_beq_eq_true hc
    subst hl
    obtain ⟨x, r, rfl, h1_⟩ := pI_inv h
    intro hv hvl H locs ls hP hS hL
    exact lv_i2l hx hb hd rfl (hK _ _ _ h1_ (zv_cons trivial (zv_tl hv)) hvl H locs ls hP hS hL)
  case l2i =>
    simp only [zstp] at h
    have hl : len = 1 := Nat.eq_of_beq_eq_true hc
    subst hl
    obtain ⟨x, r, rfl, h1_⟩ := pL_inv h
    intro hv hvl H locs ls hP hS hL
    exact lv_l2i hx hb hd rfl (hK _ _ _ h1_ (zv_cons trivial (zv_tl hv)) hvl H locs ls hP hS hL)
  case dup =>
    simp only [zstp] at h
    have hl : len = 1 := Nat.eq_of_beq_eq_true hc
    subst hl
    rcases st with _ | ⟨v, st⟩
    · cases h
    rcases v with x | x | qq
    · intro hv hvl H locs ls hP hS hL
      exact lv_dup hx hb hd rfl (hK _ _ _ h (zv_cons trivial hv) hvl H locs ls hP hS hL)
    · cases h
    · intro hv hvl H locs ls hP hS hL
      exact lv_dup hx hb hd rfl (hK _ _ _ h (zv_cons (zv_hd hv) hv) hvl H locs ls hP hS hL)
  case dup2 =>
    simp only [zstp] at h
    have hl : len = 1 := Nat.eq_of_beq_eq_true hc
    subst hl
    obtain ⟨x, r, rfl, h1_⟩ := pI_inv h
    obtain ⟨t, i, r, rfl, h2_⟩ := pR_inv h1_
    intro hv hvl H locs ls hP hS hL
    exact lv_dup2_11 hx hb hd rfl rfl (hK _ _ _ h2_ (zv_cons trivial (zv_cons (zv_hd (zv_tl hv)) hv)) hvl H locs ls hP hS hL)
  case goto off =>
    simp only [zstp] at h
    simp only [zdc, Bool.and_eq_true, decide_eq_true_eq] at hc
    have hl : len = 3 := Nat.eq_of_beq_eq_true hc.1
    subst hl
    intro hv hvl H locs ls hP hS hL
    exact lv_goto hx hb hd hc.2 (hJ _ _ _ _ h hv hvl H locs ls hP hS hL)
  case ifCond cnd off =>
    simp only [zstp] at h
    simp only [zdc, Bool.and_eq_true, decide_eq_true_eq] at hc
    have hl : len = 3 := Nat.eq_of_beq_eq_true hc.1
    subst hl
    obtain ⟨x, r, rfl, h1_⟩ := pI_inv h
    cases cnd
    case eq =>
      intro hv hvl H locs ls hP hS hL
      refine lv_if_eq hx hb hd hc.2 (fun hh => ?_) (fun hh => ?_)
      · exact hJ _ _ _ _ (by simp only [zif0] at h1_; rwa [if_pos hh] at h1_) (zv_tl hv) hvl H locs ls hP hS hL
      · exact hK _ _ _ (by simp only [zif0] at h1_; rwa [if_neg hh] at h1_) (zv_tl hv) hvl H locs ls hP hS hL
    case ne =>
      intro hv hvl H locs ls hP hS hL
      refine lv_if_ne hx hb hd hc.2 (fun hh => ?_) (fun hh => ?_)
      · exact hJ _ _ _ _ (by simp only [zif0] at h1_; rwa [if_neg hh] at h1_) (zv_tl hv) hvl H locs ls hP hS hL
      · exact hK _ _ _ (by simp only [zif0] at h1_; rwa [if_pos hh] at h1_) (zv_tl hv) hvl H locs ls hP hS hL
    case lt =>
      intro hv hvl H locs ls hP hS hL
      refine lv_if_lt hx hb hd hc.2 (fun hh => ?_) (fun hh => ?_)
      · exact hJ _ _ _ _ (by simp only [zif0] at h1_; rwa [if_pos hh] at h1_) (zv_tl hv) hvl H locs ls hP hS hL
      · exact hK _ _ _ (by simp only [zif0] at h1_; rwa [if_neg hh] at h1_) (zv_tl hv) hvl H locs ls hP hS hL
    case ge =>
      intro hv hvl H locs ls hP hS hL
      refine lv_if_ge hx hb hd hc.2 (fun hh => ?_) (fun hh => ?_)
      · exact hJ _ _ _ _ (by simp only [zif0] at h1_; rwa [if_pos hh] at h1_) (zv_tl hv) hvl H locs ls hP hS hL
      · exact hK _ _ _ (by simp only [zif0] at h1_; rwa [if_neg hh] at h1_) (zv_tl hv) hvl H locs ls hP hS hL
    case gt =>
      intro hv hvl H locs ls hP hS hL
      refine lv_if_gt hx hb hd hc.2 (fun hh => ?_) (fun hh => ?_)
      · exact hJ _ _ _ _ (by simp only [zif0] at h1_; rwa [if_pos hh] at h1_) (zv_tl hv) hvl H locs ls hP hS hL
      · exact hK _ _ _ (by simp only [zif0] at h1_; rwa [if_neg hh] at h1_) (zv_tl hv) hvl H locs ls hP hS hL
    case le =>
      intro hv hvl H locs ls hP hS hL
      refine lv_if_le hx hb hd hc.2 (fun hh => ?_) (fun hh => ?_)
      · exact hJ _ _ _ _ (by simp only [zif0] at h1_; rwa [if_pos hh] at h1_) (zv_tl hv) hvl H locs ls hP hS hL
      · exact hK _ _ _ (by simp only [zif0] at h1_; rwa [if_neg hh] at h1_) (zv_tl hv) hvl H locs ls hP hS hL
  case if_icmp cnd off =>
    simp only [zstp] at h
    simp only [zdc, Bool.and_eq_true, decide_eq_true_eq] at hc
    have hl : len = 3 := Nat.eq_of_beq_eq_true hc.1
    subst hl
    obtain ⟨y, r, rfl, h1_⟩ := pI_inv h
    obtain ⟨x, r, rfl, h2_⟩ := pI_inv h1_
    cases cnd
    case eq =>
      intro hv hvl H locs ls hP hS hL
      refine lv_icmp_eq hx hb hd hc.2 (fun hh => ?_) (fun hh => ?_)
      · exact hJ _ _ _ _ (by simp only [zic] at h2_; rwa [if_pos hh] at h2_) (zv_tl (zv_tl hv)) hvl H locs ls hP hS hL
      · exact hK _ _ _ (by simp only [zic] at h2_; rwa [if_neg hh] at h2_) (zv_tl (zv_tl hv)) hvl H locs ls hP hS hL
    case ne =>
      intro hv hvl H locs ls hP hS hL
      refine lv_icmp_ne hx hb hd hc.2 (fun hh => ?_) (fun hh => ?_)
      · exact hJ _ _ _ _ (by simp only [zic] at h2_; rwa [if_neg hh] at h2_) (zv_tl (zv_tl hv)) hvl H locs ls hP hS hL
      · exact hK _ _ _ (by simp only [zic] at h2_; rwa [if_pos hh] at h2_) (zv_tl (zv_tl hv)) hvl H locs ls hP hS hL
    case lt =>
      intro hv hvl H locs ls hP hS hL
      refine lv_icmp_lt hx hb hd hc.2 (fun hh => ?_) (fun hh => ?_)
      · exact hJ _ _ _ _ (by simp only [zic] at h2_; rwa [if_pos hh] at h2_) (zv_tl (zv_tl hv)) hvl H locs ls hP hS hL
      · exact hK _ _ _ (by simp only [zic] at h2_; rwa [if_neg hh] at h2_) (zv_tl (zv_tl hv)) hvl H locs ls hP hS hL
    case ge =>
      intro hv hvl H locs ls hP hS hL
      refine lv_icmp_ge hx hb hd hc.2 (fun hh => ?_) (fun hh => ?_)
      · exact hJ _ _ _ _ (by simp only [zic] at h2_; rwa [if_pos hh] at h2_) (zv_tl (zv_tl hv)) hvl H locs ls hP hS hL
      · exact hK _ _ _ (by simp only [zic] at h2_; rwa [if_neg hh] at h2_) (zv_tl (zv_tl hv)) hvl H locs ls hP hS hL
    case gt =>
      intro hv hvl H locs ls hP hS hL
      refine lv_icmp_gt hx hb hd hc.2 (fun hh => ?_) (fun hh => ?_)
      · exact hJ _ _ _ _ (by simp only [zic] at h2_; rwa [if_pos hh] at h2_) (zv_tl (zv_tl hv)) hvl H locs ls hP hS hL
      · exact hK _ _ _ (by simp only [zic] at h2_; rwa [if_neg hh] at h2_) (zv_tl (zv_tl hv)) hvl H locs ls hP hS hL
    case le =>
      intro hv hvl H locs ls hP hS hL
      refine lv_icmp_le hx hb hd hc.2 (fun hh => ?_) (fun hh => ?_)
      · exact hJ _ _ _ _ (by simp only [zic] at h2_; rwa [if_pos hh] at h2_) (zv_tl (zv_tl hv)) hvl H locs ls hP hS hL
      · exact hK _ _ _ (by simp only [zic] at h2_; rwa [if_neg hh] at h2_) (zv_tl (zv_tl hv)) hvl H locs ls hP hS hL
  case tableswitch d lw hi offs =>
    simp only [zstp] at h
    simp only [zdc, Bool.and_eq_true, decide_eq_true_eq] at hc
    obtain ⟨⟨⟨⟨c1, c2⟩, c3⟩, c4⟩, c5⟩ := hc
    obtain ⟨x, r, rfl, h1_⟩ := pI_inv h
    rcases zsw_table (pc := (pc : Int)) offs.toList sw lw c5 c2 (by omega) h1_ with ⟨k, o, g1, g2, t, g3, g4⟩ | ⟨g1, g2⟩
    · intro hv hvl H locs ls hP hS hL
      refine lv_tableIn (off := o) (tgt := t) hx hb hd (by omega) (by have := (List.getElem?_eq_some_iff.mp g1).1; omega) ?_ g3.symm (hJ _ _ _ _ g4 (zv_tl hv) hvl H locs ls hP hS hL)
      rw [show (x.toInt - lw).toNat = k by omega, ← Array.getElem?_toList]
      exact g1
    · intro hv hvl H locs ls hP hS hL
      exact lv_tableOut hx hb hd (by omega) c1 (hJ _ _ _ _ g2 (zv_tl hv) hvl H locs ls hP hS hL)
  case lookupswitch d ps =>
    simp only [zstp] at h
    simp only [zdc, Bool.and_eq_true, decide_eq_true_eq] at hc
    obtain ⟨⟨c1, c2⟩, c3⟩ := hc
    obtain ⟨x, r, rfl, h1_⟩ := pI_inv h
    rcases zsw_lookup (pc := (pc : Int)) (dd := d) ps.toList sw c3 h1_ with ⟨t, g1, g2⟩ | ⟨g1, g2⟩
    · intro hv hvl H locs ls hP hS hL
      exact lv_lookup hx hb hd c2 rfl g1.symm (hJ _ _ _ _ g2 (zv_tl hv) hvl H locs ls hP hS hL)
    · intro hv hvl H locs ls hP hS hL
      exact lv_lookup hx hb hd c2 g1 c1 (hJ _ _ _ _ g2 (zv_tl hv) hvl H locs ls hP hS hL)
  case getfield k =>
    simp only [zstp] at h
    have hl : len = 3 := Nat.eq_of_beq_eq_true hc
    subst hl
    exact zx_getf hF hcF hd hK h
  case putfield k =>
    simp only [zstp] at h
    have hl : len = 3 := Nat.eq_of_beq_eq_true hc
    subst hl
    exact zx_putf hF hcF hd hK h
  case iaload =>
    simp only [zstp] at h
    have hl : len = 1 := Nat.eq_of_beq_eq_true hc
    subst hl
    obtain ⟨x, r, rfl, h1_⟩ := pI_inv h
    obtain ⟨t, i, r, rfl, h2_⟩ := pR_inv h1_
    obtain ⟨hk, h3_⟩ := zif_inv h2_
    obtain ⟨hin, h4_⟩ := chk_inv h3_
    exact zx_iald hF hd hk hin (hK _ _ _ h4_)
  case baload =>
    simp only [zstp] at h
    have hl : len = 1 := Nat.eq_of_beq_eq_true hc
    subst hl
    obtain ⟨x, r, rfl, h1_⟩ := pI_inv h
    obtain ⟨t, i, r, rfl, h2_⟩ := pR_inv h1_
    obtain ⟨hk, h3_⟩ := zif_inv h2_
    obtain ⟨hin, h4_⟩ := chk_inv h3_
    exact zx_bald hF hd hk hin (hK _ _ _ h4_)
  case laload =>
    simp only [zstp] at h
    have hl : len = 1 := Nat.eq_of_beq_eq_true hc
    subst hl
    obtain ⟨x, r, rfl, h1_⟩ := pI_inv h
    obtain ⟨t, i, r, rfl, h2_⟩ := pR_inv h1_
    obtain ⟨hk, h3_⟩ := zif_inv h2_
    obtain ⟨hin, h4_⟩ := chk_inv h3_
    exact zx_lald hF hd hk hin (hK _ _ _ h4_)
  case aaload =>
    simp only [zstp] at h
    have hl : len = 1 := Nat.eq_of_beq_eq_true hc
    subst hl
    obtain ⟨x, r, rfl, h1_⟩ := pI_inv h
    obtain ⟨t, i, r, rfl, h2_⟩ := pR_inv h1_
    cases hb20 : Nat.beq t 20
    · rw [hb20] at h2_
      obtain ⟨hk, g1_⟩ := zif_inv h2_
      obtain ⟨hin, g2_⟩ := chk_inv g1_
      exact zx_aald hF hd (Or.inr ⟨Nat.eq_of_beq_eq_true hk, rfl, rfl⟩) hin (hK _ _ _ g2_)
    · rw [hb20] at h2_
      obtain ⟨hin, g2_⟩ := chk_inv h2_
      exact zx_aald hF hd (Or.inl ⟨Nat.eq_of_beq_eq_true hb20, rfl, rfl⟩) hin (hK _ _ _ g2_)
  case iastore =>
    simp only [zstp] at h
    have hl : len = 1 := Nat.eq_of_beq_eq_true hc
    subst hl
    obtain ⟨x, r, rfl, h1_⟩ := pI_inv h
    obtain ⟨j, r, rfl, h2_⟩ := pI_inv h1_
    obtain ⟨t, i, r, rfl, h3_⟩ := pR_inv h2_
    obtain ⟨hk, h4_⟩ := zif_inv h3_
    obtain ⟨hin, h5_⟩ := chk_inv h4_
    exact zx_iast hF hd hk hin (hK _ _ _ h5_)
  case bastore =>
    simp only [zstp] at h
    have hl : len = 1 := Nat.eq_of_beq_eq_true hc
    subst hl
    obtain ⟨x, r, rfl, h1_⟩ := pI_inv h
    obtain ⟨j, r, rfl, h2_⟩ := pI_inv h1_
    obtain ⟨t, i, r, rfl, h3_⟩ := pR_inv h2_
    obtain ⟨hk, h4_⟩ := zif_inv h3_
    obtain ⟨hin, h5_⟩ := chk_inv h4_
    obtain ⟨h01, h6_⟩ := zb_inv h5_
    exact zx_bast hF hd hk hin h01 (hK _ _ _ h6_)
  case lastore =>
    simp only [zstp] at h
    have hl : len = 1 := Nat.eq_of_beq_eq_true hc
    subst hl
    obtain ⟨x, r, rfl, h1_⟩ := pL_inv h
    obtain ⟨j, r, rfl, h2_⟩ := pI_inv h1_
    obtain ⟨t, i, r, rfl, h3_⟩ := pR_inv h2_
    obtain ⟨hk, h4_⟩ := zif_inv h3_
    obtain ⟨hin, h5_⟩ := chk_inv h4_
    exact zx_last hF hd hk hin (hK _ _ _ h5_)
  case arraylength =>
    simp only [zstp] at h
    have hl : len = 1 := Nat.eq_of_beq_eq_true hc
    subst hl
    obtain ⟨t, i, r, rfl, h1_⟩ := pR_inv h
    obtain ⟨hk, h2_⟩ := zif_inv h1_
    exact zx_alen hF hd hk (hK _ _ _ h2_)
  case invokevirtual k =>
    simp only [zstp] at h
    have hl : len = 3 := Nat.eq_of_beq_eq_true hc
    subst hl
    obtain ⟨q, hq, h1_⟩ := oB_inv h
    obtain ⟨as, r, rfl, hn, h2_⟩ := zpop_inv _ _ _ h1_
    obtain ⟨h8, h3_⟩ := zif_inv h2_
    rw [List.append_nil] at h3_
    exact (hcM _ (zop_mem hq)).1 k rfl pc as r lo w _ hd hn (Nat.le_of_ble_eq_true h8) h3_ fun v w' h' => hK _ _ _ h'
  case invokestatic k =>
    simp only [zstp] at h
    have hl : len = 3 := Nat.eq_of_beq_eq_true hc
    subst hl
    obtain ⟨q, hq, h1_⟩ := oB_inv h
    obtain ⟨as, r, rfl, hn, h2_⟩ := zpop_inv _ _ _ h1_
    obtain ⟨h8, h3_⟩ := zif_inv h2_
    rw [List.append_nil] at h3_
    exact (hcM _ (zop_mem hq)).2 k rfl pc as r lo w _ hd hn (Nat.le_of_ble_eq_true h8) h3_ fun v w' h' => hK _ _ _ h'
  case ireturn =>
    simp only [zstp] at h
    have hl : len = 1 := Nat.eq_of_beq_eq_true hc
    subst hl
    obtain ⟨x, r, rfl, h1_⟩ := pI_inv h
    obtain ⟨rfl, h2_⟩ := pE_inv h1_
    exact hR.1 pc x w lo hd h2_
  case lreturn =>
    simp only [zstp] at h
    have hl : len = 1 := Nat.eq_of_beq_eq_true hc
    subst hl
    obtain ⟨x, r, rfl, h1_⟩ := pL_inv h
    obtain ⟨rfl, h2_⟩ := pE_inv h1_
    exact hR.2.1 pc x w lo hd h2_
  case areturn =>
    simp only [zstp] at h
    have hl : len = 1 := Nat.eq_of_beq_eq_true hc
    subst hl
    obtain ⟨t, i, r, rfl, h1_⟩ := pR_inv h
    obtain ⟨rfl, h2_⟩ := pE_inv h1_
    exact hR.2.2.1 pc t i w lo hd h2_
  case return_ =>
    simp only [zstp] at h
    have hl : len = 1 := Nat.eq_of_beq_eq_true hc
    subst hl
    obtain ⟨rfl, h1_⟩ := pE_inv h
    exact hR.2.2.2 pc w lo hd h1_
  all_goals cases h
def zdr (cc : ByteArray) (nL : Nat) : Nat → List ZRow → Bool
  | _, [] => true
  | pc, r :: rs => decide (decode cc pc = .ok (r.1, r.2.1)) && zdc r.1 r.2.1 r.2.2.1 r.2.2.2 nL pc && zdr cc nL (pc + r.2.1) rs
def zdb (cc : ByteArray) (nL : Nat) (bl : ZBl) : Bool := bl.all fun b => zdr cc nL b.1 b.2.2
theorem zrun_sound {ρ : Type} {X : ρ} {cF : List (Nat × Nat × Nat)} {cL : List (Nat × Int64)} {cM : List (Nat × Nat × ZCall ρ)} {ret : Option ZV → Wd → Option ρ} {J : ZJ ρ} (hF : zMF p s m args c cc nL own Ts D ad cA A) (hcF : zFl own cF) (hcL : zLl own cL) (hcM : zMl (zCk p l e R s m args below meth c cells slots Q cc nL D ad cA A X) cM) (hR : zRt p l e R s m args below meth c cells slots Q cc nL D ad cA A X ret)
    (hJ : ∀ pc st lo w, J pc st lo w = some X → zAt p l e R s m args below meth c cells slots Q nL D ad cA A pc st lo w) : ∀ (rs : List ZRow) (pc : Nat) (st : List ZV) (lo : Lo) (w : Wd), zdr cc nL pc rs = true → zrun cF cL cM ret J rs pc st lo w = some X → zAt p l e R s m args below meth c cells slots Q nL D ad cA A pc st lo w
  | [], pc, st, lo, w, _, h => hJ _ _ _ _ h
  | r :: rs, pc, st, lo, w, hz, h => by
    simp only [zdr, Bool.and_eq_true, decide_eq_true_eq] at hz
    exact zstp_sound hF hz.1.1 hz.1.2 hcF hcL hcM hR (fun st lo w h' => zrun_sound hF hcF hcL hcM hR hJ rs _ st lo w hz.2 h') hJ h
theorem zAt.mask {pc : Nat} {st : List ZV} {lo : Lo} {w : Wd} {ms : List Bool} (h : zAt p l e R s m args below meth c cells slots Q nL D ad cA A pc st (zmask ms lo) w) : zAt p l e R s m args below meth c cells slots Q nL D ad cA A pc st lo w :=
  fun hv hvl H locs ls hP hS hL => h hv (fun i v hz => hvl i v (zget_mask _ _ _ _ hz)) H locs ls hP hS (hL.mask ms)
theorem zex_sound {ρ : Type} {X : ρ} {cF : List (Nat × Nat × Nat)} {cL : List (Nat × Int64)} {cM : List (Nat × Nat × ZCall ρ)} {ret : Option ZV → Wd → Option ρ} {J : ZJ ρ} {bl : ZBl} (hF : zMF p s m args c cc nL own Ts D ad cA A) (hcF : zFl own cF) (hcL : zLl own cL) (hcM : zMl (zCk p l e R s m args below meth c cells slots Q cc nL D ad cA A X) cM) (hR : zRt p l e R s m args below meth c cells slots Q cc nL D ad cA A X ret) (hbl : zdb cc nL bl = true)
    (hJ : ∀ pc st lo w, J pc st lo w = some X → zAt p l e R s m args below meth c cells slots Q nL D ad cA A pc st lo w) : ∀ (k pc : Nat) (st : List ZV) (lo : Lo) (w : Wd), zex cF cL bl cM ret J k pc st lo w = some X → zAt p l e R s m args below meth c cells slots Q nL D ad cA A pc st lo w
  | 0, _, _, _, _, h => by cases h
  | k + 1, pc, st, lo, w, h => by
    obtain ⟨b, hb, h⟩ := oB_inv h
    refine zrun_sound hF hcF hcL hcM hR ?_ b.2 pc st lo w (List.all_eq_true.mp hbl _ (zop_mem hb)) h
    intro pc st lo w h
    obtain ⟨b', hb', h⟩ := oB_inv h
    split at h
    · exact (hJ _ _ _ _ h).mask
    · exact zex_sound hF hcF hcL hcM hR hbl hJ k pc st lo w h
theorem zeN_sound {ρ : Type} {X : ρ} {cF : List (Nat × Nat × Nat)} {cL : List (Nat × Int64)} {cM : List (Nat × Nat × ZCall ρ)} {ret : Option ZV → Wd → Option ρ} {bl : ZBl} (hF : zMF p s m args c cc nL own Ts D ad cA A) (hcF : zFl own cF) (hcL : zLl own cL) (hcM : zMl (zCk p l e R s m args below meth c cells slots Q cc nL D ad cA A X) cM) (hR : zRt p l e R s m args below meth c cells slots Q cc nL D ad cA A X ret) (hbl : zdb cc nL bl = true) : ∀ (n pc : Nat) (st : List ZV) (lo : Lo) (w : Wd), zeN cF cL bl cM ret n pc st lo w = some X → zAt p l e R s m args below meth c cells slots Q nL D ad cA A pc st lo w
  | 0, _, _, _, _, h => by cases h
  | n + 1, pc, st, lo, w, h => zex_sound hF hcF hcL hcM hR hbl (fun pc st lo w h' => zeN_sound hF hcF hcL hcM hR hbl n pc st lo w h') 400 pc st lo w h
theorem zev_sound {ρ : Type} {X : ρ} {cF : List (Nat × Nat × Nat)} {cL : List (Nat × Int64)} {cM : List (Nat × Nat × ZCall ρ)} {ret : Option ZV → Wd → Option ρ} {bl : ZBl} (hF : zMF p s m args c cc nL own Ts D ad cA A) (hcF : zFl own cF) (hcL : zLl own cL) (hcM : zMl (zCk p l e R s m args below meth c cells slots Q cc nL D ad cA A X) cM) (hR : zRt p l e R s m args below meth c cells slots Q cc nL D ad cA A X ret) (hbl : zdb cc nL bl = true) (hM : LfM cM) {pc : Nat} {st : List ZV} {lo : Lo} {w : Wd} (h : zev cF cL bl cM ret pc st lo w = some X) : zAt p l e R s m args below meth c cells slots Q nL D ad cA A pc st lo w := by
  obtain ⟨n, hn⟩ := (zev_some hM).mp h
  exact zeN_sound hF hcF hcL hcM hR hbl n pc st lo w hn
end RUN
