/-! THE PLACES OF THE CELLS behind the constructor and the law's own array (written by mk73.py). -/
section PL
def zpl7 : List (Nat × List Nat) := [(0, [9]), (1, [1]), (2, [4, 12, 18, 24, 30, 36, 42, 75, 81, 49, 53]), (3, [7, 15, 21, 27, 33, 39, 45, 78, 84, 68, 70, 72, 61]), (4, [63]), (5, [52]), (6, [3, 11, 17, 23, 29, 35, 41, 74, 80]), (7, [0]), (10, [2]), (11, [5, 13, 19, 25, 31, 37, 43, 76, 82, 50, 54]), (12, [6, 14, 20, 26, 32, 38, 44, 77, 83, 51, 55]), (13, [8, 16, 22, 28, 34, 40, 46, 79, 85, 69, 71, 73, 62]), (14, [64, 57]), (15, [65]), (16, [66]), (17, [67, 58, 59]), (18, [56]), (19, [60]), (20, [10]), (21, [47]), (22, [48])]
def patL (cA : Nat → ClassId) (u7 : Nat → Nat) (q : Nat) : va_W := pat_X7 cA u7 ++ [(q, .inl (cA 1, 60, .inl fun _ => 0))]
/-- the address of a cell: b is the script, u7 the class's cells, q the law's array -/
def zad (b : Nat) (u7 : Nat → Nat) (q : Nat) (t i : Nat) : Nat := match zop zpl7 t with
  | some l => (match zn l i with
    | some k => u7 k
    | none => 0)
  | none => bif Nat.beq t 30 then q else b
def zpos (t i : Nat) : Nat := match zop zpl7 t with
  | some l => (match zn l i with
    | some k => k
    | none => 0)
  | none => bif Nat.beq t 30 then 86 else 0
def zcells : List (Nat × Nat) := [(0, 0), (1, 0), (2, 0), (2, 1), (2, 2), (2, 3), (2, 4), (2, 5), (2, 6), (2, 7), (2, 8), (2, 9), (2, 10), (3, 0), (3, 1), (3, 2), (3, 3), (3, 4), (3, 5), (3, 6), (3, 7), (3, 8), (3, 9), (3, 10), (3, 11), (3, 12), (4, 0), (5, 0), (6, 0), (6, 1), (6, 2), (6, 3), (6, 4), (6, 5), (6, 6), (6, 7), (6, 8), (7, 0), (10, 0), (11, 0), (11, 1), (11, 2), (11, 3), (11, 4), (11, 5), (11, 6), (11, 7), (11, 8), (11, 9), (11, 10), (12, 0), (12, 1), (12, 2), (12, 3), (12, 4), (12, 5), (12, 6), (12, 7), (12, 8), (12, 9), (12, 10), (13, 0), (13, 1), (13, 2), (13, 3), (13, 4), (13, 5), (13, 6), (13, 7), (13, 8), (13, 9), (13, 10), (13, 11), (13, 12), (14, 0), (14, 1), (15, 0), (16, 0), (17, 0), (17, 1), (17, 2), (18, 0), (19, 0), (20, 0), (21, 0), (22, 0), (30, 0)]
theorem zcells_ok : zcells = (zC.flatMap fun q => (List.range q.2).map fun i => (q.1, i)).filter (fun q => !Nat.beq q.1 50) := by decide +kernel
theorem zcells_mem {t i : Nat} (h : i < zcnt t) (ht : t ≠ 50) : (t, i) ∈ zcells := by
  rw [zcells_ok, List.mem_filter]
  refine ⟨?_, by
    show (!Nat.beq t 50) = true
    cases hb : Nat.beq t 50 with
    | false => rfl
    | true => exact absurd (Nat.eq_of_beq_eq_true hb) ht⟩
  unfold zcnt at h
  split at h
  · rename_i n hn
    exact List.mem_flatMap.mpr ⟨(t, n), zop_mem hn, List.mem_map.mpr ⟨i, List.mem_range.mpr h, rfl⟩⟩
  · exact absurd h (Nat.not_lt_zero _)
theorem zpos_inj : ∀ q ∈ zcells, ∀ q' ∈ zcells, zpos q.1 q.2 = zpos q'.1 q'.2 → q = q' := by decide +kernel
def w0 (n : Nat) (xs : Nat → Int32) : Wd := (fun t _ j => bif Nat.beq t 50 then xs j else bif Nat.beq t 51 then nI n else 0, fun _ _ _ => 0)
theorem arrV_ext {cI : ClassId} {N : Nat} {f g : Nat → Value} (h : ∀ j, j < N → f j = g j) : arrV cI N f = arrV cI N g := by
  have e : (Array.ofFn (n := N) fun j => f j.val) = Array.ofFn (n := N) fun j => g j.val := congrArg _ (funext fun j => h j.val j.isLt)
  show ({ cls := cI, slots := (Array.ofFn (n := N) fun j => f j.val), vm := .none } : Cell) = { cls := cI, slots := (Array.ofFn (n := N) fun j => g j.val), vm := .none }
  rw [e]
variable {D : va_G} {cA : Nat → ClassId} {b L : Nat} {u7 : Nat → Nat} {q1 : Nat} {xs : Nat → Int32} {H : Heap} {s : State} {A : Nat → Prop}
theorem st_refs {n a : Nat} {f g : Nat → Option Nat} {x : ClassId} (h : va_at D vwCl (a, .inl (x, n, .inr (.inr (.inr (.inr f))))) H) (hfg : ∀ j, j < n → f j = g j) : va_at D vwCl (a, .inl (x, n, .inr (.inr (.inr (.inr g))))) H := by
  have h1 : H[a]? = some (arrV x n fun j => va_rf (f j)) := h
  show H[a]? = some (arrV x n fun j => va_rf (g j))
  rw [h1, arrV_ext fun j hj => by rw [hfg j hj]]
def zcells_0 : List (Nat × Nat) := [(0, 0), (1, 0), (2, 0), (2, 1), (2, 2), (2, 3), (2, 4), (2, 5), (2, 6), (2, 7), (2, 8), (2, 9), (2, 10), (3, 0), (3, 1), (3, 2), (3, 3), (3, 4), (3, 5), (3, 6)]
def zcells_1 : List (Nat × Nat) := [(3, 7), (3, 8), (3, 9), (3, 10), (3, 11), (3, 12), (4, 0), (5, 0), (6, 0), (6, 1), (6, 2), (6, 3), (6, 4), (6, 5), (6, 6), (6, 7), (6, 8), (7, 0), (10, 0), (11, 0)]
def zcells_2 : List (Nat × Nat) := [(11, 1), (11, 2), (11, 3), (11, 4), (11, 5), (11, 6), (11, 7), (11, 8), (11, 9), (11, 10), (12, 0), (12, 1), (12, 2), (12, 3), (12, 4), (12, 5), (12, 6), (12, 7), (12, 8), (12, 9)]
def zcells_3 : List (Nat × Nat) := [(12, 10), (13, 0), (13, 1), (13, 2), (13, 3), (13, 4), (13, 5), (13, 6), (13, 7), (13, 8), (13, 9), (13, 10), (13, 11), (13, 12), (14, 0), (14, 1), (15, 0), (16, 0), (17, 0), (17, 1)]
def zcells_4 : List (Nat × Nat) := [(17, 2), (18, 0), (19, 0), (20, 0), (21, 0), (22, 0), (30, 0)]
theorem zcells_app : zcells = zcells_0 ++ (zcells_1 ++ (zcells_2 ++ (zcells_3 ++ (zcells_4)))) := rfl
set_option maxHeartbeats 4000000 in
set_option maxRecDepth 100000 in
theorem st_pos_0 : ∀ q ∈ zcells_0, ∃ e, (patL cA u7 q1)[zpos q.1 q.2]? = some (zad b u7 q1 q.1 q.2, e) := List.forall_mem_cons.mpr ⟨⟨_, rfl⟩, List.forall_mem_cons.mpr ⟨⟨_, rfl⟩, List.forall_mem_cons.mpr ⟨⟨_, rfl⟩, List.forall_mem_cons.mpr ⟨⟨_, rfl⟩, List.forall_mem_cons.mpr ⟨⟨_, rfl⟩, List.forall_mem_cons.mpr ⟨⟨_, rfl⟩, List.forall_mem_cons.mpr ⟨⟨_, rfl⟩, List.forall_mem_cons.mpr ⟨⟨_, rfl⟩, List.forall_mem_cons.mpr ⟨⟨_, rfl⟩, List.forall_mem_cons.mpr ⟨⟨_, rfl⟩, List.forall_mem_cons.mpr ⟨⟨_, rfl⟩, List.forall_mem_cons.mpr ⟨⟨_, rfl⟩, List.forall_mem_cons.mpr ⟨⟨_, rfl⟩, List.forall_mem_cons.mpr ⟨⟨_, rfl⟩, List.forall_mem_cons.mpr ⟨⟨_, rfl⟩, List.forall_mem_cons.mpr ⟨⟨_, rfl⟩, List.forall_mem_cons.mpr ⟨⟨_, rfl⟩, List.forall_mem_cons.mpr ⟨⟨_, rfl⟩, List.forall_mem_cons.mpr ⟨⟨_, rfl⟩, List.forall_mem_cons.mpr ⟨⟨_, rfl⟩, List.forall_mem_nil _⟩⟩⟩⟩⟩⟩⟩⟩⟩⟩⟩⟩⟩⟩⟩⟩⟩⟩⟩⟩
set_option maxHeartbeats 4000000 in
set_option maxRecDepth 100000 in
theorem st_cell_0 (hP : va_P D vwCl (patL cA u7 q1) H) : ∀ q ∈ zcells_0, va_at D vwCl (zad b u7 q1 q.1 q.2, zcell (zad b u7 q1) cA q.1 q.2 (w0 L xs)) H := List.forall_mem_cons.mpr ⟨hP 9 _ rfl, List.forall_mem_cons.mpr ⟨hP 1 _ rfl, List.forall_mem_cons.mpr ⟨hP 4 _ rfl, List.forall_mem_cons.mpr ⟨hP 12 _ rfl, List.forall_mem_cons.mpr ⟨hP 18 _ rfl, List.forall_mem_cons.mpr ⟨hP 24 _ rfl, List.forall_mem_cons.mpr ⟨hP 30 _ rfl, List.forall_mem_cons.mpr ⟨hP 36 _ rfl, List.forall_mem_cons.mpr ⟨hP 42 _ rfl, List.forall_mem_cons.mpr ⟨hP 75 _ rfl, List.forall_mem_cons.mpr ⟨hP 81 _ rfl, List.forall_mem_cons.mpr ⟨hP 49 _ rfl, List.forall_mem_cons.mpr ⟨hP 53 _ rfl, List.forall_mem_cons.mpr ⟨hP 7 _ rfl, List.forall_mem_cons.mpr ⟨hP 15 _ rfl, List.forall_mem_cons.mpr ⟨hP 21 _ rfl, List.forall_mem_cons.mpr ⟨hP 27 _ rfl, List.forall_mem_cons.mpr ⟨hP 33 _ rfl, List.forall_mem_cons.mpr ⟨hP 39 _ rfl, List.forall_mem_cons.mpr ⟨hP 45 _ rfl, List.forall_mem_nil _⟩⟩⟩⟩⟩⟩⟩⟩⟩⟩⟩⟩⟩⟩⟩⟩⟩⟩⟩⟩
set_option maxHeartbeats 4000000 in
set_option maxRecDepth 100000 in
theorem st_pos_1 : ∀ q ∈ zcells_1, ∃ e, (patL cA u7 q1)[zpos q.1 q.2]? = some (zad b u7 q1 q.1 q.2, e) := List.forall_mem_cons.mpr ⟨⟨_, rfl⟩, List.forall_mem_cons.mpr ⟨⟨_, rfl⟩, List.forall_mem_cons.mpr ⟨⟨_, rfl⟩, List.forall_mem_cons.mpr ⟨⟨_, rfl⟩, List.forall_mem_cons.mpr ⟨⟨_, rfl⟩, List.forall_mem_cons.mpr ⟨⟨_, rfl⟩, List.forall_mem_cons.mpr ⟨⟨_, rfl⟩, List.forall_mem_cons.mpr ⟨⟨_, rfl⟩, List.forall_mem_cons.mpr ⟨⟨_, rfl⟩, List.forall_mem_cons.mpr ⟨⟨_, rfl⟩, List.forall_mem_cons.mpr ⟨⟨_, rfl⟩, List.forall_mem_cons.mpr ⟨⟨_, rfl⟩, List.forall_mem_cons.mpr ⟨⟨_, rfl⟩, List.forall_mem_cons.mpr ⟨⟨_, rfl⟩, List.forall_mem_cons.mpr ⟨⟨_, rfl⟩, List.forall_mem_cons.mpr ⟨⟨_, rfl⟩, List.forall_mem_cons.mpr ⟨⟨_, rfl⟩, List.forall_mem_cons.mpr ⟨⟨_, rfl⟩, List.forall_mem_cons.mpr ⟨⟨_, rfl⟩, List.forall_mem_cons.mpr ⟨⟨_, rfl⟩, List.forall_mem_nil _⟩⟩⟩⟩⟩⟩⟩⟩⟩⟩⟩⟩⟩⟩⟩⟩⟩⟩⟩⟩
set_option maxHeartbeats 4000000 in
set_option maxRecDepth 100000 in
theorem st_cell_1 (hP : va_P D vwCl (patL cA u7 q1) H) : ∀ q ∈ zcells_1, va_at D vwCl (zad b u7 q1 q.1 q.2, zcell (zad b u7 q1) cA q.1 q.2 (w0 L xs)) H := List.forall_mem_cons.mpr ⟨hP 78 _ rfl, List.forall_mem_cons.mpr ⟨hP 84 _ rfl, List.forall_mem_cons.mpr ⟨hP 68 _ rfl, List.forall_mem_cons.mpr ⟨hP 70 _ rfl, List.forall_mem_cons.mpr ⟨hP 72 _ rfl, List.forall_mem_cons.mpr ⟨hP 61 _ rfl, List.forall_mem_cons.mpr ⟨hP 63 _ rfl, List.forall_mem_cons.mpr ⟨hP 52 _ rfl, List.forall_mem_cons.mpr ⟨hP 3 _ rfl, List.forall_mem_cons.mpr ⟨hP 11 _ rfl, List.forall_mem_cons.mpr ⟨hP 17 _ rfl, List.forall_mem_cons.mpr ⟨hP 23 _ rfl, List.forall_mem_cons.mpr ⟨hP 29 _ rfl, List.forall_mem_cons.mpr ⟨hP 35 _ rfl, List.forall_mem_cons.mpr ⟨hP 41 _ rfl, List.forall_mem_cons.mpr ⟨hP 74 _ rfl, List.forall_mem_cons.mpr ⟨hP 80 _ rfl, List.forall_mem_cons.mpr ⟨hP 0 _ rfl, List.forall_mem_cons.mpr ⟨hP 2 _ rfl, List.forall_mem_cons.mpr ⟨hP 5 _ rfl, List.forall_mem_nil _⟩⟩⟩⟩⟩⟩⟩⟩⟩⟩⟩⟩⟩⟩⟩⟩⟩⟩⟩⟩
set_option maxHeartbeats 4000000 in
set_option maxRecDepth 100000 in
theorem st_pos_2 : ∀ q ∈ zcells_2, ∃ e, (patL cA u7 q1)[zpos q.1 q.2]? = some (zad b u7 q1 q.1 q.2, e) := List.forall_mem_cons.mpr ⟨⟨_, rfl⟩, List.forall_mem_cons.mpr ⟨⟨_, rfl⟩, List.forall_mem_cons.mpr ⟨⟨_, rfl⟩, List.forall_mem_cons.mpr ⟨⟨_, rfl⟩, List.forall_mem_cons.mpr ⟨⟨_, rfl⟩, List.forall_mem_cons.mpr ⟨⟨_, rfl⟩, List.forall_mem_cons.mpr ⟨⟨_, rfl⟩, List.forall_mem_cons.mpr ⟨⟨_, rfl⟩, List.forall_mem_cons.mpr ⟨⟨_, rfl⟩, List.forall_mem_cons.mpr ⟨⟨_, rfl⟩, List.forall_mem_cons.mpr ⟨⟨_, rfl⟩, List.forall_mem_cons.mpr ⟨⟨_, rfl⟩, List.forall_mem_cons.mpr ⟨⟨_, rfl⟩, List.forall_mem_cons.mpr ⟨⟨_, rfl⟩, List.forall_mem_cons.mpr ⟨⟨_, rfl⟩, List.forall_mem_cons.mpr ⟨⟨_, rfl⟩, List.forall_mem_cons.mpr ⟨⟨_, rfl⟩, List.forall_mem_cons.mpr ⟨⟨_, rfl⟩, List.forall_mem_cons.mpr ⟨⟨_, rfl⟩, List.forall_mem_cons.mpr ⟨⟨_, rfl⟩, List.forall_mem_nil _⟩⟩⟩⟩⟩⟩⟩⟩⟩⟩⟩⟩⟩⟩⟩⟩⟩⟩⟩⟩
set_option maxHeartbeats 4000000 in
set_option maxRecDepth 100000 in
theorem st_cell_2 (hP : va_P D vwCl (patL cA u7 q1) H) : ∀ q ∈ zcells_2, va_at D vwCl (zad b u7 q1 q.1 q.2, zcell (zad b u7 q1) cA q.1 q.2 (w0 L xs)) H := List.forall_mem_cons.mpr ⟨hP 13 _ rfl, List.forall_mem_cons.mpr ⟨hP 19 _ rfl, List.forall_mem_cons.mpr ⟨hP 25 _ rfl, List.forall_mem_cons.mpr ⟨hP 31 _ rfl, List.forall_mem_cons.mpr ⟨hP 37 _ rfl, List.forall_mem_cons.mpr ⟨hP 43 _ rfl, List.forall_mem_cons.mpr ⟨hP 76 _ rfl, List.forall_mem_cons.mpr ⟨hP 82 _ rfl, List.forall_mem_cons.mpr ⟨hP 50 _ rfl, List.forall_mem_cons.mpr ⟨hP 54 _ rfl, List.forall_mem_cons.mpr ⟨hP 6 _ rfl, List.forall_mem_cons.mpr ⟨hP 14 _ rfl, List.forall_mem_cons.mpr ⟨hP 20 _ rfl, List.forall_mem_cons.mpr ⟨hP 26 _ rfl, List.forall_mem_cons.mpr ⟨hP 32 _ rfl, List.forall_mem_cons.mpr ⟨hP 38 _ rfl, List.forall_mem_cons.mpr ⟨hP 44 _ rfl, List.forall_mem_cons.mpr ⟨hP 77 _ rfl, List.forall_mem_cons.mpr ⟨hP 83 _ rfl, List.forall_mem_cons.mpr ⟨hP 51 _ rfl, List.forall_mem_nil _⟩⟩⟩⟩⟩⟩⟩⟩⟩⟩⟩⟩⟩⟩⟩⟩⟩⟩⟩⟩
set_option maxHeartbeats 4000000 in
set_option maxRecDepth 100000 in
theorem st_pos_3 : ∀ q ∈ zcells_3, ∃ e, (patL cA u7 q1)[zpos q.1 q.2]? = some (zad b u7 q1 q.1 q.2, e) := List.forall_mem_cons.mpr ⟨⟨_, rfl⟩, List.forall_mem_cons.mpr ⟨⟨_, rfl⟩, List.forall_mem_cons.mpr ⟨⟨_, rfl⟩, List.forall_mem_cons.mpr ⟨⟨_, rfl⟩, List.forall_mem_cons.mpr ⟨⟨_, rfl⟩, List.forall_mem_cons.mpr ⟨⟨_, rfl⟩, List.forall_mem_cons.mpr ⟨⟨_, rfl⟩, List.forall_mem_cons.mpr ⟨⟨_, rfl⟩, List.forall_mem_cons.mpr ⟨⟨_, rfl⟩, List.forall_mem_cons.mpr ⟨⟨_, rfl⟩, List.forall_mem_cons.mpr ⟨⟨_, rfl⟩, List.forall_mem_cons.mpr ⟨⟨_, rfl⟩, List.forall_mem_cons.mpr ⟨⟨_, rfl⟩, List.forall_mem_cons.mpr ⟨⟨_, rfl⟩, List.forall_mem_cons.mpr ⟨⟨_, rfl⟩, List.forall_mem_cons.mpr ⟨⟨_, rfl⟩, List.forall_mem_cons.mpr ⟨⟨_, rfl⟩, List.forall_mem_cons.mpr ⟨⟨_, rfl⟩, List.forall_mem_cons.mpr ⟨⟨_, rfl⟩, List.forall_mem_cons.mpr ⟨⟨_, rfl⟩, List.forall_mem_nil _⟩⟩⟩⟩⟩⟩⟩⟩⟩⟩⟩⟩⟩⟩⟩⟩⟩⟩⟩⟩
set_option maxHeartbeats 4000000 in
set_option maxRecDepth 100000 in
theorem st_cell_3 (hP : va_P D vwCl (patL cA u7 q1) H) : ∀ q ∈ zcells_3, va_at D vwCl (zad b u7 q1 q.1 q.2, zcell (zad b u7 q1) cA q.1 q.2 (w0 L xs)) H := List.forall_mem_cons.mpr ⟨hP 55 _ rfl, List.forall_mem_cons.mpr ⟨hP 8 _ rfl, List.forall_mem_cons.mpr ⟨hP 16 _ rfl, List.forall_mem_cons.mpr ⟨hP 22 _ rfl, List.forall_mem_cons.mpr ⟨hP 28 _ rfl, List.forall_mem_cons.mpr ⟨hP 34 _ rfl, List.forall_mem_cons.mpr ⟨hP 40 _ rfl, List.forall_mem_cons.mpr ⟨hP 46 _ rfl, List.forall_mem_cons.mpr ⟨hP 79 _ rfl, List.forall_mem_cons.mpr ⟨hP 85 _ rfl, List.forall_mem_cons.mpr ⟨hP 69 _ rfl, List.forall_mem_cons.mpr ⟨hP 71 _ rfl, List.forall_mem_cons.mpr ⟨hP 73 _ rfl, List.forall_mem_cons.mpr ⟨hP 62 _ rfl, List.forall_mem_cons.mpr ⟨hP 64 _ rfl, List.forall_mem_cons.mpr ⟨hP 57 _ rfl, List.forall_mem_cons.mpr ⟨hP 65 _ rfl, List.forall_mem_cons.mpr ⟨hP 66 _ rfl, List.forall_mem_cons.mpr ⟨hP 67 _ rfl, List.forall_mem_cons.mpr ⟨hP 58 _ rfl, List.forall_mem_nil _⟩⟩⟩⟩⟩⟩⟩⟩⟩⟩⟩⟩⟩⟩⟩⟩⟩⟩⟩⟩
set_option maxHeartbeats 4000000 in
set_option maxRecDepth 100000 in
theorem st_pos_4 : ∀ q ∈ zcells_4, ∃ e, (patL cA u7 q1)[zpos q.1 q.2]? = some (zad b u7 q1 q.1 q.2, e) := List.forall_mem_cons.mpr ⟨⟨_, rfl⟩, List.forall_mem_cons.mpr ⟨⟨_, rfl⟩, List.forall_mem_cons.mpr ⟨⟨_, rfl⟩, List.forall_mem_cons.mpr ⟨⟨_, rfl⟩, List.forall_mem_cons.mpr ⟨⟨_, rfl⟩, List.forall_mem_cons.mpr ⟨⟨_, rfl⟩, List.forall_mem_cons.mpr ⟨⟨_, rfl⟩, List.forall_mem_nil _⟩⟩⟩⟩⟩⟩⟩
set_option maxHeartbeats 4000000 in
set_option maxRecDepth 100000 in
theorem st_cell_4 (hP : va_P D vwCl (patL cA u7 q1) H) : ∀ q ∈ zcells_4, va_at D vwCl (zad b u7 q1 q.1 q.2, zcell (zad b u7 q1) cA q.1 q.2 (w0 L xs)) H := List.forall_mem_cons.mpr ⟨hP 59 _ rfl, List.forall_mem_cons.mpr ⟨hP 56 _ rfl, List.forall_mem_cons.mpr ⟨hP 60 _ rfl, List.forall_mem_cons.mpr ⟨st_refs (hP 10 _ rfl) (fun j hj => by have hj : j < 6 := hj; rcases (show j = 0 ∨ j = 1 ∨ j = 2 ∨ j = 3 ∨ j = 4 ∨ j = 5 by omega) with rfl | rfl | rfl | rfl | rfl | rfl <;> rfl), List.forall_mem_cons.mpr ⟨st_refs (hP 47 _ rfl) (fun j hj => by have hj : j < 2 := hj; rcases (show j = 0 ∨ j = 1 by omega) with rfl | rfl <;> rfl), List.forall_mem_cons.mpr ⟨hP 48 _ rfl, List.forall_mem_cons.mpr ⟨hP 86 _ rfl, List.forall_mem_nil _⟩⟩⟩⟩⟩⟩⟩
theorem st_pos : ∀ q ∈ zcells, ∃ e, (patL cA u7 q1)[zpos q.1 q.2]? = some (zad b u7 q1 q.1 q.2, e) := by
  rw [zcells_app]
  exact (List.forall_mem_append.mpr ⟨st_pos_0, (List.forall_mem_append.mpr ⟨st_pos_1, (List.forall_mem_append.mpr ⟨st_pos_2, (List.forall_mem_append.mpr ⟨st_pos_3, (st_pos_4)⟩)⟩)⟩)⟩)
theorem st_cell (hP : va_P D vwCl (patL cA u7 q1) H) : ∀ q ∈ zcells, va_at D vwCl (zad b u7 q1 q.1 q.2, zcell (zad b u7 q1) cA q.1 q.2 (w0 L xs)) H := by
  rw [zcells_app]
  exact (List.forall_mem_append.mpr ⟨st_cell_0 hP, (List.forall_mem_append.mpr ⟨st_cell_1 hP, (List.forall_mem_append.mpr ⟨st_cell_2 hP, (List.forall_mem_append.mpr ⟨st_cell_3 hP, (st_cell_4 hP)⟩)⟩)⟩)⟩)
theorem st_far (hD : va_D A (patL cA u7 q1)) {t i : Nat} (ht : t ≠ 50) (hi : i < zcnt t) : A (zad b u7 q1 t i) := by
  obtain ⟨e, he⟩ := st_pos (cA := cA) (b := b) (u7 := u7) (q1 := q1) (t, i) (zcells_mem hi ht)
  exact hD.2 _ _ he
theorem st_inj (hD : va_D A (patL cA u7 q1)) (hbA : ¬ A b) : zInj (zad b u7 q1) := by
  intro t i t' i' hi hi' he
  have e50 : ∀ i : Nat, zad b u7 q1 50 i = b := fun i => rfl
  have one : ∀ i : Nat, i < zcnt 50 → i = 0 := fun i h => by
    have e1 : zcnt 50 = 1 := rfl
    omega
  by_cases ht : t = 50
  · subst ht
    by_cases ht' : t' = 50
    · subst ht'
      exact ⟨rfl, (one i hi).trans (one i' hi').symm⟩
    · rw [e50] at he
      exact absurd (by rw [he]; exact st_far hD ht' hi') hbA
  · by_cases ht' : t' = 50
    · subst ht'
      rw [e50] at he
      exact absurd (by rw [← he]; exact st_far hD ht hi) hbA
    · obtain ⟨x, hx⟩ := st_pos (cA := cA) (b := b) (u7 := u7) (q1 := q1) (t, i) (zcells_mem hi ht)
      obtain ⟨y, hy⟩ := st_pos (cA := cA) (b := b) (u7 := u7) (q1 := q1) (t', i') (zcells_mem hi' ht')
      have e1 := zpos_inj (t, i) (zcells_mem hi ht) (t', i') (zcells_mem hi' ht') (hD.1 _ _ _ _ hx hy he)
      cases e1
      exact ⟨rfl, rfl⟩
theorem w0_len (hL : L ≤ 260) : zlen 50 0 (w0 L xs) = L := by
  show (nI L).toNatClampNeg = L
  exact nI_clamp (by omega)
theorem st_rep (hL : L ≤ 260) (hP : va_P D vwCl (patL cA u7 q1) H) (hX : va_X b L xs s H) : zRep D (zad b u7 q1) cA (w0 L xs) s H := by
  intro t i hi
  by_cases ht : t = 50
  · rw [if_pos ht, w0_len hL]
    exact hX
  · rw [if_neg ht]
    exact st_cell hP (t, i) (zcells_mem hi ht)
end PL
