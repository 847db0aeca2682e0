/-! the classes, as the executor has them (written by gen_methods.py) -/
theorem zw_X0 : ∀ w ∈ wsX00, w ∈ zW0 := List.forall_mem_cons.mpr ⟨zW0_mem (tw1 (i := 87) rfl) rfl, List.forall_mem_cons.mpr ⟨zW0_mem (tw1 (i := 89) rfl) rfl, List.forall_mem_cons.mpr ⟨zW0_mem (tw1 (i := 91) rfl) rfl, List.forall_mem_nil _⟩⟩⟩
theorem zc_X0 : zCls 0 RX0 TX0 3 tyX0 := ⟨rfl, zw_X0, tyX0_ok, nmX0, rfl, rfl, by decide +kernel⟩
theorem zw_X1 : ∀ w ∈ wsX10, w ∈ zW0 := List.forall_mem_cons.mpr ⟨zW0_mem (tw1 (i := 28) rfl) rfl, List.forall_mem_cons.mpr ⟨zW0_mem (tw1 (i := 30) rfl) rfl, List.forall_mem_nil _⟩⟩
theorem zc_X1 : zCls 1 RX1 TX1 2 tyX1 := ⟨rfl, zw_X1, tyX1_ok, nmX1, rfl, rfl, by decide +kernel⟩
theorem zw_X2 : ∀ w ∈ wsX20, w ∈ zW0 := List.forall_mem_cons.mpr ⟨zW0_mem (tw1 (i := 48) rfl) rfl, List.forall_mem_cons.mpr ⟨zW0_mem (tw1 (i := 50) rfl) rfl, List.forall_mem_nil _⟩⟩
theorem zc_X2 : zCls 2 RX2 TX2 2 tyX2 := ⟨rfl, zw_X2, tyX2_ok, nmX2, rfl, rfl, by decide +kernel⟩
theorem zw_X3 : ∀ w ∈ wsX30, w ∈ zW0 := List.forall_mem_cons.mpr ⟨zW0_mem (tw1 (i := 61) rfl) rfl, List.forall_mem_cons.mpr ⟨zW0_mem (tw1 (i := 63) rfl) rfl, List.forall_mem_nil _⟩⟩
theorem zc_X3 : zCls 3 RX3 TX3 2 tyX3 := ⟨rfl, zw_X3, tyX3_ok, nmX3, rfl, rfl, by decide +kernel⟩
theorem zw_X4 : ∀ w ∈ wsX40, w ∈ zW0 := List.forall_mem_cons.mpr ⟨zW0_mem (tw1 (i := 158) rfl) rfl, List.forall_mem_cons.mpr ⟨zW0_mem (tw1 (i := 160) rfl) rfl, List.forall_mem_cons.mpr ⟨zW0_mem (tw1 (i := 162) rfl) rfl, List.forall_mem_cons.mpr ⟨zW0_mem (tw1 (i := 164) rfl) rfl, List.forall_mem_cons.mpr ⟨zW0_mem (tw1 (i := 166) rfl) rfl, List.forall_mem_cons.mpr ⟨zW0_mem (tw1 (i := 168) rfl) rfl, List.forall_mem_nil _⟩⟩⟩⟩⟩⟩
theorem zc_X4 : zCls 4 RX4 TX4 6 tyX4 := ⟨rfl, zw_X4, tyX4_ok, nmX4, rfl, rfl, by decide +kernel⟩
theorem zw_X5 : ∀ w ∈ wsX50, w ∈ zW0 := List.forall_mem_cons.mpr ⟨zW0_mem (tw1 (i := 119) rfl) rfl, List.forall_mem_cons.mpr ⟨zW0_mem (tw1 (i := 121) rfl) rfl, List.forall_mem_cons.mpr ⟨zW0_mem (tw1 (i := 123) rfl) rfl, List.forall_mem_cons.mpr ⟨zW0_mem (tw1 (i := 125) rfl) rfl, List.forall_mem_cons.mpr ⟨zW0_mem (tw1 (i := 127) rfl) rfl, List.forall_mem_cons.mpr ⟨zW0_mem (tw1 (i := 129) rfl) rfl, List.forall_mem_cons.mpr ⟨zW0_mem (tw1 (i := 131) rfl) rfl, List.forall_mem_cons.mpr ⟨zW0_mem (tw1 (i := 133) rfl) rfl, List.forall_mem_cons.mpr ⟨zW0_mem (tw1 (i := 135) rfl) rfl, List.forall_mem_cons.mpr ⟨zW0_mem (tw1 (i := 137) rfl) rfl, List.forall_mem_cons.mpr ⟨zW0_mem (tw1 (i := 139) rfl) rfl, List.forall_mem_cons.mpr ⟨zW0_mem (tw1 (i := 141) rfl) rfl, List.forall_mem_nil _⟩⟩⟩⟩⟩⟩⟩⟩⟩⟩⟩⟩
theorem zc_X5 : zCls 5 RX5 TX5 12 tyX5 := ⟨rfl, zw_X5, tyX5_ok, nmX5, rfl, rfl, by decide +kernel⟩
theorem zw_X6 : ∀ w ∈ wsX60, w ∈ zW0 := List.forall_mem_cons.mpr ⟨zW0_mem (tw1 (i := 70) rfl) rfl, List.forall_mem_cons.mpr ⟨zW0_mem (tw1 (i := 72) rfl) rfl, List.forall_mem_nil _⟩⟩
theorem zc_X6 : zCls 6 RX6 TX6 2 tyX6 := ⟨rfl, zw_X6, tyX6_ok, nmX6, rfl, rfl, by decide +kernel⟩
theorem zw_X7 : ∀ w ∈ wsX70, w ∈ zW0 := List.forall_mem_cons.mpr ⟨zW0_mem (tw1 (i := 184) rfl) rfl, List.forall_mem_cons.mpr ⟨zW0_mem (tw1 (i := 186) rfl) rfl, List.forall_mem_cons.mpr ⟨zW0_mem (tw1 (i := 188) rfl) rfl, List.forall_mem_cons.mpr ⟨zW0_mem (tw1 (i := 190) rfl) rfl, List.forall_mem_cons.mpr ⟨zW0_mem (tw1 (i := 192) rfl) rfl, List.forall_mem_cons.mpr ⟨zW0_mem (tw1 (i := 194) rfl) rfl, List.forall_mem_cons.mpr ⟨zW0_mem (tw1 (i := 196) rfl) rfl, List.forall_mem_cons.mpr ⟨zW0_mem (tw1 (i := 198) rfl) rfl, List.forall_mem_cons.mpr ⟨zW0_mem (tw1 (i := 200) rfl) rfl, List.forall_mem_cons.mpr ⟨zW0_mem (tw1 (i := 202) rfl) rfl, List.forall_mem_cons.mpr ⟨zW0_mem (tw1 (i := 204) rfl) rfl, List.forall_mem_nil _⟩⟩⟩⟩⟩⟩⟩⟩⟩⟩⟩
theorem zc_X7 : zCls 7 RX7 TX7 11 tyX7 := ⟨rfl, zw_X7, tyX7_ok, nmX7, rfl, rfl, by decide +kernel⟩
def cF_X0 : List (Nat × Nat × Nat) := [(11, 0, 0), (18, 0, 2), (22, 0, 1)]
theorem fl_X0 : zFl RX0 cF_X0 := List.forall_mem_cons.mpr ⟨⟨_, _, _, _, zc_X0, Or.inl (zW0_mem (tw1 (i := 84) rfl) rfl)⟩, List.forall_mem_cons.mpr ⟨⟨_, _, _, _, zc_X0, Or.inl (zW0_mem (tw1 (i := 86) rfl) rfl)⟩, List.forall_mem_cons.mpr ⟨⟨_, _, _, _, zc_X0, Or.inl (zW0_mem (tw1 (i := 85) rfl) rfl)⟩, List.forall_mem_nil _⟩⟩⟩
def cL_X0 : List (Nat × Int64) := []
theorem ll_X0 : zLl RX0 cL_X0 := List.forall_mem_nil _
def cF_X1 : List (Nat × Nat × Nat) := [(9, 1, 0), (21, 1, 1)]
theorem fl_X1 : zFl RX1 cF_X1 := List.forall_mem_cons.mpr ⟨⟨_, _, _, _, zc_X1, Or.inl (zW0_mem (tw1 (i := 26) rfl) rfl)⟩, List.forall_mem_cons.mpr ⟨⟨_, _, _, _, zc_X1, Or.inl (zW0_mem (tw1 (i := 27) rfl) rfl)⟩, List.forall_mem_nil _⟩⟩
def cL_X1 : List (Nat × Int64) := [(38, 255)]
theorem ll_X1 : zLl RX1 cL_X1 := List.forall_mem_cons.mpr ⟨zW0_mem (tw3 (i := 121) rfl) rfl, List.forall_mem_nil _⟩
def cF_X2 : List (Nat × Nat × Nat) := [(9, 2, 0), (15, 2, 1)]
theorem fl_X2 : zFl RX2 cF_X2 := List.forall_mem_cons.mpr ⟨⟨_, _, _, _, zc_X2, Or.inl (zW0_mem (tw1 (i := 46) rfl) rfl)⟩, List.forall_mem_cons.mpr ⟨⟨_, _, _, _, zc_X2, Or.inl (zW0_mem (tw1 (i := 47) rfl) rfl)⟩, List.forall_mem_nil _⟩⟩
def cL_X2 : List (Nat × Int64) := []
theorem ll_X2 : zLl RX2 cL_X2 := List.forall_mem_nil _
def cF_X3 : List (Nat × Nat × Nat) := [(9, 3, 0), (15, 3, 1)]
theorem fl_X3 : zFl RX3 cF_X3 := List.forall_mem_cons.mpr ⟨⟨_, _, _, _, zc_X3, Or.inl (zW0_mem (tw1 (i := 59) rfl) rfl)⟩, List.forall_mem_cons.mpr ⟨⟨_, _, _, _, zc_X3, Or.inl (zW0_mem (tw1 (i := 60) rfl) rfl)⟩, List.forall_mem_nil _⟩⟩
def cL_X3 : List (Nat × Int64) := []
theorem ll_X3 : zLl RX3 cL_X3 := List.forall_mem_nil _
def cF_X4 : List (Nat × Nat × Nat) := [(9, 4, 0), (15, 4, 1), (18, 4, 2), (21, 4, 5), (31, 4, 3), (35, 4, 4)]
theorem fl_X4 : zFl RX4 cF_X4 := List.forall_mem_cons.mpr ⟨⟨_, _, _, _, zc_X4, Or.inl (zW0_mem (tw1 (i := 152) rfl) rfl)⟩, List.forall_mem_cons.mpr ⟨⟨_, _, _, _, zc_X4, Or.inl (zW0_mem (tw1 (i := 153) rfl) rfl)⟩, List.forall_mem_cons.mpr ⟨⟨_, _, _, _, zc_X4, Or.inl (zW0_mem (tw1 (i := 154) rfl) rfl)⟩, List.forall_mem_cons.mpr ⟨⟨_, _, _, _, zc_X4, Or.inl (zW0_mem (tw1 (i := 157) rfl) rfl)⟩, List.forall_mem_cons.mpr ⟨⟨_, _, _, _, zc_X4, Or.inl (zW0_mem (tw1 (i := 155) rfl) rfl)⟩, List.forall_mem_cons.mpr ⟨⟨_, _, _, _, zc_X4, Or.inl (zW0_mem (tw1 (i := 156) rfl) rfl)⟩, List.forall_mem_nil _⟩⟩⟩⟩⟩⟩
def cL_X4 : List (Nat × Int64) := []
theorem ll_X4 : zLl RX4 cL_X4 := List.forall_mem_nil _
def cF_X5 : List (Nat × Nat × Nat) := [(12, 5, 0), (18, 5, 2), (22, 5, 3), (25, 5, 4), (30, 5, 6), (33, 5, 10), (40, 5, 11), (44, 5, 1), (56, 5, 5), (131, 5, 7), (135, 5, 8), (138, 5, 9)]
theorem fl_X5 : zFl RX5 cF_X5 := List.forall_mem_cons.mpr ⟨⟨_, _, _, _, zc_X5, Or.inl (zW0_mem (tw1 (i := 107) rfl) rfl)⟩, List.forall_mem_cons.mpr ⟨⟨_, _, _, _, zc_X5, Or.inl (zW0_mem (tw1 (i := 109) rfl) rfl)⟩, List.forall_mem_cons.mpr ⟨⟨_, _, _, _, zc_X5, Or.inl (zW0_mem (tw1 (i := 110) rfl) rfl)⟩, List.forall_mem_cons.mpr ⟨⟨_, _, _, _, zc_X5, Or.inl (zW0_mem (tw1 (i := 111) rfl) rfl)⟩, List.forall_mem_cons.mpr ⟨⟨_, _, _, _, zc_X5, Or.inl (zW0_mem (tw1 (i := 113) rfl) rfl)⟩, List.forall_mem_cons.mpr ⟨⟨_, _, _, _, zc_X5, Or.inl (zW0_mem (tw1 (i := 117) rfl) rfl)⟩, List.forall_mem_cons.mpr ⟨⟨_, _, _, _, zc_X5, Or.inl (zW0_mem (tw1 (i := 118) rfl) rfl)⟩, List.forall_mem_cons.mpr ⟨⟨_, _, _, _, zc_X5, Or.inl (zW0_mem (tw1 (i := 108) rfl) rfl)⟩, List.forall_mem_cons.mpr ⟨⟨_, _, _, _, zc_X5, Or.inl (zW0_mem (tw1 (i := 112) rfl) rfl)⟩, List.forall_mem_cons.mpr ⟨⟨_, _, _, _, zc_X5, Or.inl (zW0_mem (tw1 (i := 114) rfl) rfl)⟩, List.forall_mem_cons.mpr ⟨⟨_, _, _, _, zc_X5, Or.inl (zW0_mem (tw1 (i := 115) rfl) rfl)⟩, List.forall_mem_cons.mpr ⟨⟨_, _, _, _, zc_X5, Or.inl (zW0_mem (tw1 (i := 116) rfl) rfl)⟩, List.forall_mem_nil _⟩⟩⟩⟩⟩⟩⟩⟩⟩⟩⟩⟩
def cL_X5 : List (Nat × Int64) := []
theorem ll_X5 : zLl RX5 cL_X5 := List.forall_mem_nil _
def cF_X6 : List (Nat × Nat × Nat) := [(10, 6, 0), (19, 6, 1)]
theorem fl_X6 : zFl RX6 cF_X6 := List.forall_mem_cons.mpr ⟨⟨_, _, _, _, zc_X6, Or.inl (zW0_mem (tw1 (i := 66) rfl) rfl)⟩, List.forall_mem_cons.mpr ⟨⟨_, _, _, _, zc_X6, Or.inl (zW0_mem (tw1 (i := 68) rfl) rfl)⟩, List.forall_mem_nil _⟩⟩
def cL_X6 : List (Nat × Int64) := []
theorem ll_X6 : zLl RX6 cL_X6 := List.forall_mem_nil _
def cF_X7 : List (Nat × Nat × Nat) := [(12, 7, 0), (19, 7, 1), (26, 7, 2), (30, 7, 3), (34, 7, 4), (41, 7, 5), (48, 7, 6), (55, 7, 7), (62, 7, 8), (66, 7, 9), (69, 7, 10), (97, 6, 0), (141, 6, 1)]
theorem fl_X7 : zFl RX7 cF_X7 := List.forall_mem_cons.mpr ⟨⟨_, _, _, _, zc_X7, Or.inl (zW0_mem (tw1 (i := 173) rfl) rfl)⟩, List.forall_mem_cons.mpr ⟨⟨_, _, _, _, zc_X7, Or.inl (zW0_mem (tw1 (i := 174) rfl) rfl)⟩, List.forall_mem_cons.mpr ⟨⟨_, _, _, _, zc_X7, Or.inl (zW0_mem (tw1 (i := 175) rfl) rfl)⟩, List.forall_mem_cons.mpr ⟨⟨_, _, _, _, zc_X7, Or.inl (zW0_mem (tw1 (i := 176) rfl) rfl)⟩, List.forall_mem_cons.mpr ⟨⟨_, _, _, _, zc_X7, Or.inl (zW0_mem (tw1 (i := 177) rfl) rfl)⟩, List.forall_mem_cons.mpr ⟨⟨_, _, _, _, zc_X7, Or.inl (zW0_mem (tw1 (i := 178) rfl) rfl)⟩, List.forall_mem_cons.mpr ⟨⟨_, _, _, _, zc_X7, Or.inl (zW0_mem (tw1 (i := 179) rfl) rfl)⟩, List.forall_mem_cons.mpr ⟨⟨_, _, _, _, zc_X7, Or.inl (zW0_mem (tw1 (i := 180) rfl) rfl)⟩, List.forall_mem_cons.mpr ⟨⟨_, _, _, _, zc_X7, Or.inl (zW0_mem (tw1 (i := 181) rfl) rfl)⟩, List.forall_mem_cons.mpr ⟨⟨_, _, _, _, zc_X7, Or.inl (zW0_mem (tw1 (i := 182) rfl) rfl)⟩, List.forall_mem_cons.mpr ⟨⟨_, _, _, _, zc_X7, Or.inl (zW0_mem (tw1 (i := 183) rfl) rfl)⟩, List.forall_mem_cons.mpr ⟨⟨_, _, _, _, zc_X6, Or.inr ⟨"SleepSteps", (tw1 (i := 67) rfl)⟩⟩, List.forall_mem_cons.mpr ⟨⟨_, _, _, _, zc_X6, Or.inr ⟨"SleepSteps", (tw1 (i := 69) rfl)⟩⟩, List.forall_mem_nil _⟩⟩⟩⟩⟩⟩⟩⟩⟩⟩⟩⟩⟩
def cL_X7 : List (Nat × Int64) := [(396, (-2))]
theorem ll_X7 : zLl RX7 cL_X7 := List.forall_mem_cons.mpr ⟨zW0_mem (tw2 (i := 201) rfl) rfl, List.forall_mem_nil _⟩
def cF_L : List (Nat × Nat × Nat) := []
theorem fl_L : zFl RL cF_L := List.forall_mem_nil _
def cL_L : List (Nat × Int64) := [(32, 256), (36, 48), (180, 2), (190, 32), (194, 127), (198, 3145776), (202, 12288), (212, (-2)), (228, 120), (15, 763049417), (17, 2147483647), (31, 1103515245)]
theorem ll_L : zLl RL cL_L := List.forall_mem_cons.mpr ⟨zW0_mem (tw3 (i := 109) rfl) rfl, List.forall_mem_cons.mpr ⟨zW0_mem (tw3 (i := 110) rfl) rfl, List.forall_mem_cons.mpr ⟨zW0_mem (tw3 (i := 216) rfl) rfl, List.forall_mem_cons.mpr ⟨zW0_mem (tw3 (i := 226) rfl) rfl, List.forall_mem_cons.mpr ⟨zW0_mem (tw3 (i := 227) rfl) rfl, List.forall_mem_cons.mpr ⟨zW0_mem (tw3 (i := 228) rfl) rfl, List.forall_mem_cons.mpr ⟨zW0_mem (tw3 (i := 229) rfl) rfl, List.forall_mem_cons.mpr ⟨zW0_mem (tw3 (i := 238) rfl) rfl, List.forall_mem_cons.mpr ⟨zW0_mem (tw3 (i := 239) rfl) rfl, List.forall_mem_cons.mpr ⟨zW0_mem (tw3 (i := 100) rfl) rfl, List.forall_mem_cons.mpr ⟨zW0_mem (tw3 (i := 107) rfl) rfl, List.forall_mem_cons.mpr ⟨zW0_mem (tw3 (i := 108) rfl) rfl, List.forall_mem_nil _⟩⟩⟩⟩⟩⟩⟩⟩⟩⟩⟩⟩
def cF_J7 : List (Nat × Nat × Nat) := []
theorem fl_J7 : zFl RJ7 cF_J7 := List.forall_mem_nil _
def cL_J7 : List (Nat × Int64) := []
theorem ll_J7 : zLl RJ7 cL_J7 := List.forall_mem_nil _
def cF_J9 : List (Nat × Nat × Nat) := []
theorem fl_J9 : zFl RJ9 cF_J9 := List.forall_mem_nil _
def cL_J9 : List (Nat × Int64) := []
theorem ll_J9 : zLl RJ9 cL_J9 := List.forall_mem_nil _
