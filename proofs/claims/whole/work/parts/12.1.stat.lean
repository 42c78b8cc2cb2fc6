/-! THE CLAIM OUT OF ONE WALK OF THE LAW'S BODY. Your part is whole_start (and what it stands on); all else here is the same for every law, but numbers. -/
def lw_P (b : Addr) (xs : List Int32) (args : Array Value) (s : State) : Prop := args = #[.ref b] ∧ s.IntsAt b xs ∧ xs.length ≤ 3584 ∧ (Jvm.Cond.and given_1 narrow_1).before args s = true
def lw_Q (_ : Array Value) (s : State) (o : Outcome) (t : State) : Prop := o = .returned (some (.int 1)) ∧ Framed s o t [] 600000 7302250
def lw_Z (below : List Frame) (a : Array Value) (s : State) : State → Prop := fun t => ∃ o, t.status = .running ∧ Ended t below o ∧ lw_Q a s o t
/-- the law's own end, with 1 on the stack, nothing written that was there before, its room as the claim has it -/
theorem lw_ret {p : Program} {l : Launch} {e : Env} {s : State} {m : MethodId} {below : List Frame} {meth : Method} {c : Code} {b : Nat} (hx : p.tables.exec = Jvm.exec) (hb : c.code = code) (hr : meth.sig.returnType = ret) (hlocks : meth.locks = false) {pc : Nat} {H : Heap} {ls : Array Slot} (hdg : decode code pc = .ok (.ireturn, 1)) : W p l e room_1 s m #[Value.ref b] below meth c H [] 600000 7302250 (lw_Z below #[Value.ref b] s) (F0 m pc ls [.int 1]) := by
  intro T hT X
  obtain ⟨fs, hret, hrun, hended, hW, hframe⟩ := X.leave (v := some (.int 1)) (hlocks := hlocks) (fun h => by rw [hr] at h; cases h)
  have hmeth' : T.vm.method? m = some meth := X.method'
  refine ⟨T.setFrames fs, ?_, .returned (some (.int 1)), hrun, hended, rfl, ⟨_, rfl⟩, hW, hframe⟩
  jvm_step X.here [X.here.top, hx, hb, hdg, hmeth', hr, ret, narrow_b1]
  (try refine ⟨rfl, ?_⟩); (try refine ⟨rfl, ?_⟩)
  first | (intro acts; rw [hret _ acts rfl rfl rfl]) | rw [hret _ _ rfl rfl rfl]
  exact Steps.refl _
/-- what holds at the law's entry: the machine, the code, the tables' words (any of lw_tbl by 'hts w (by decide +kernel)'), the script of L ints xs at the cell b, what the Statement gives of the start (any of its parts by flat_of_before) -/
def lw_At (p : Program) (s : State) (m : MethodId) (meth : Method) (c : Code) (b L : Nat) (xs : Nat → Int32) : Prop :=
  p.tables.exec = Jvm.exec ∧ c.code = code ∧ meth.sig.returnType = ret ∧ c.maxLocals = 4 ∧ s.vm.findClass R_law = some m.cls ∧ (∀ w ∈ lw_tbl, w.before #[Value.ref b] s = true) ∧ va_X b L xs s s.heap ∧ b < s.heap.size ∧ meth.locks = false ∧ (Jvm.Cond.and given_1 narrow_1).before #[Value.ref b] s = true
/-! THE START: static rows, constructors, and the law as a function -/
theorem pm_st_FACTORIALS {s : State} {b : Nat} {A : Nat → Prop} (hgv : (Jvm.Cond.and given_1 narrow_1).before #[Value.ref b] s = true) (hts : ∀ w ∈ lw_tbl, w.before #[Value.ref b] s = true) (hA : ∀ a : Nat, a < s.heap.size → ¬ A a) : ∃ t : Nat, va_Z "PalletRounds" "FACTORIALS" "[J" (.ref t) A s s.heap ∧ va_T .long t 9 (fun j => .long (pm_FA j)) A s s.heap := by
  have hs := flat_of_before _ hgv
  obtain ⟨t, h1, h2⟩ := va_Tof (tm := .static "PalletRounds" "FACTORIALS" "[J") (ty := .long) (N := 9) (f := fun j => .long (pm_FA j)) (A := A) (by decide) (hs _ (by decide +kernel)) (va_eqt (z := 9) (hs _ (by decide +kernel))) (fun j hj => by
    match j, hj with
    | 0, _ => exact va_eqtl (z := 1) (hs (Cond.eq (.elem (.static "PalletRounds" "FACTORIALS" "[J") (.int (0 : Int32))) (.long (1 : Int64))) (by decide +kernel))
    | 1, _ => exact va_eqtl (z := 1) (hs (Cond.eq (.elem (.static "PalletRounds" "FACTORIALS" "[J") (.int (1 : Int32))) (.long (1 : Int64))) (by decide +kernel))
    | 2, _ => exact va_eqtl (z := 2) (hs (Cond.eq (.elem (.static "PalletRounds" "FACTORIALS" "[J") (.int (2 : Int32))) (.long (2 : Int64))) (by decide +kernel))
    | 3, _ => exact va_eqtl (z := 6) (hs (Cond.eq (.elem (.static "PalletRounds" "FACTORIALS" "[J") (.int (3 : Int32))) (.long (6 : Int64))) (by decide +kernel))
    | 4, _ => exact va_eqtl (z := 24) (hs (Cond.eq (.elem (.static "PalletRounds" "FACTORIALS" "[J") (.int (4 : Int32))) (.long (24 : Int64))) (by decide +kernel))
    | 5, _ => exact va_eqtl (z := 120) (hs (Cond.eq (.elem (.static "PalletRounds" "FACTORIALS" "[J") (.int (5 : Int32))) (.long (120 : Int64))) (by decide +kernel))
    | 6, _ => exact va_eqtl (z := 720) (hs (Cond.eq (.elem (.static "PalletRounds" "FACTORIALS" "[J") (.int (6 : Int32))) (.long (720 : Int64))) (by decide +kernel))
    | 7, _ => exact va_eqtl (z := 5040) (hs (Cond.eq (.elem (.static "PalletRounds" "FACTORIALS" "[J") (.int (7 : Int32))) (.long (5040 : Int64))) (by decide +kernel))
    | 8, _ => exact va_eqtl (z := 40320) (hs (Cond.eq (.elem (.static "PalletRounds" "FACTORIALS" "[J") (.int (8 : Int32))) (.long (40320 : Int64))) (by decide +kernel))
    | k + 9, h => exact absurd h (by omega)) hA
  exact ⟨t, va_Zref (hts _ (List.mem_of_getElem? (i := 539) (by decide +kernel))) (hts _ (List.mem_of_getElem? (i := 64) (by decide +kernel))) h1 hA, h2⟩
theorem pm_st_CHOICES {s : State} {b : Nat} {A : Nat → Prop} (hgv : (Jvm.Cond.and given_1 narrow_1).before #[Value.ref b] s = true) (hts : ∀ w ∈ lw_tbl, w.before #[Value.ref b] s = true) (hA : ∀ a : Nat, a < s.heap.size → ¬ A a) : ∃ t : Nat, va_Z "PalletRounds" "CHOICES" "[J" (.ref t) A s s.heap ∧ va_T .long t 49 (fun j => .long (pm_CH j)) A s s.heap := by
  have hs := flat_of_before _ hgv
  obtain ⟨t, h1, h2⟩ := va_Tof (tm := .static "PalletRounds" "CHOICES" "[J") (ty := .long) (N := 49) (f := fun j => .long (pm_CH j)) (A := A) (by decide) (hs _ (by decide +kernel)) (va_eqt (z := 49) (hs _ (by decide +kernel))) (fun j hj => by
    match j, hj with
    | 0, _ => exact va_eqtl (z := 1) (hs (Cond.eq (.elem (.static "PalletRounds" "CHOICES" "[J") (.int (0 : Int32))) (.long (1 : Int64))) (by decide +kernel))
    | 1, _ => exact va_eqtl (z := 0) (hs (Cond.eq (.elem (.static "PalletRounds" "CHOICES" "[J") (.int (1 : Int32))) (.long (0 : Int64))) (by decide +kernel))
    | 2, _ => exact va_eqtl (z := 0) (hs (Cond.eq (.elem (.static "PalletRounds" "CHOICES" "[J") (.int (2 : Int32))) (.long (0 : Int64))) (by decide +kernel))
    | 3, _ => exact va_eqtl (z := 0) (hs (Cond.eq (.elem (.static "PalletRounds" "CHOICES" "[J") (.int (3 : Int32))) (.long (0 : Int64))) (by decide +kernel))
    | 4, _ => exact va_eqtl (z := 0) (hs (Cond.eq (.elem (.static "PalletRounds" "CHOICES" "[J") (.int (4 : Int32))) (.long (0 : Int64))) (by decide +kernel))
    | 5, _ => exact va_eqtl (z := 0) (hs (Cond.eq (.elem (.static "PalletRounds" "CHOICES" "[J") (.int (5 : Int32))) (.long (0 : Int64))) (by decide +kernel))
    | 6, _ => exact va_eqtl (z := 0) (hs (Cond.eq (.elem (.static "PalletRounds" "CHOICES" "[J") (.int (6 : Int32))) (.long (0 : Int64))) (by decide +kernel))
    | 7, _ => exact va_eqtl (z := 1) (hs (Cond.eq (.elem (.static "PalletRounds" "CHOICES" "[J") (.int (7 : Int32))) (.long (1 : Int64))) (by decide +kernel))
    | 8, _ => exact va_eqtl (z := 1) (hs (Cond.eq (.elem (.static "PalletRounds" "CHOICES" "[J") (.int (8 : Int32))) (.long (1 : Int64))) (by decide +kernel))
    | 9, _ => exact va_eqtl (z := 0) (hs (Cond.eq (.elem (.static "PalletRounds" "CHOICES" "[J") (.int (9 : Int32))) (.long (0 : Int64))) (by decide +kernel))
    | 10, _ => exact va_eqtl (z := 0) (hs (Cond.eq (.elem (.static "PalletRounds" "CHOICES" "[J") (.int (10 : Int32))) (.long (0 : Int64))) (by decide +kernel))
    | 11, _ => exact va_eqtl (z := 0) (hs (Cond.eq (.elem (.static "PalletRounds" "CHOICES" "[J") (.int (11 : Int32))) (.long (0 : Int64))) (by decide +kernel))
    | 12, _ => exact va_eqtl (z := 0) (hs (Cond.eq (.elem (.static "PalletRounds" "CHOICES" "[J") (.int (12 : Int32))) (.long (0 : Int64))) (by decide +kernel))
    | 13, _ => exact va_eqtl (z := 0) (hs (Cond.eq (.elem (.static "PalletRounds" "CHOICES" "[J") (.int (13 : Int32))) (.long (0 : Int64))) (by decide +kernel))
    | 14, _ => exact va_eqtl (z := 1) (hs (Cond.eq (.elem (.static "PalletRounds" "CHOICES" "[J") (.int (14 : Int32))) (.long (1 : Int64))) (by decide +kernel))
    | 15, _ => exact va_eqtl (z := 2) (hs (Cond.eq (.elem (.static "PalletRounds" "CHOICES" "[J") (.int (15 : Int32))) (.long (2 : Int64))) (by decide +kernel))
    | 16, _ => exact va_eqtl (z := 1) (hs (Cond.eq (.elem (.static "PalletRounds" "CHOICES" "[J") (.int (16 : Int32))) (.long (1 : Int64))) (by decide +kernel))
    | 17, _ => exact va_eqtl (z := 0) (hs (Cond.eq (.elem (.static "PalletRounds" "CHOICES" "[J") (.int (17 : Int32))) (.long (0 : Int64))) (by decide +kernel))
    | 18, _ => exact va_eqtl (z := 0) (hs (Cond.eq (.elem (.static "PalletRounds" "CHOICES" "[J") (.int (18 : Int32))) (.long (0 : Int64))) (by decide +kernel))
    | 19, _ => exact va_eqtl (z := 0) (hs (Cond.eq (.elem (.static "PalletRounds" "CHOICES" "[J") (.int (19 : Int32))) (.long (0 : Int64))) (by decide +kernel))
    | 20, _ => exact va_eqtl (z := 0) (hs (Cond.eq (.elem (.static "PalletRounds" "CHOICES" "[J") (.int (20 : Int32))) (.long (0 : Int64))) (by decide +kernel))
    | 21, _ => exact va_eqtl (z := 1) (hs (Cond.eq (.elem (.static "PalletRounds" "CHOICES" "[J") (.int (21 : Int32))) (.long (1 : Int64))) (by decide +kernel))
    | 22, _ => exact va_eqtl (z := 3) (hs (Cond.eq (.elem (.static "PalletRounds" "CHOICES" "[J") (.int (22 : Int32))) (.long (3 : Int64))) (by decide +kernel))
    | 23, _ => exact va_eqtl (z := 3) (hs (Cond.eq (.elem (.static "PalletRounds" "CHOICES" "[J") (.int (23 : Int32))) (.long (3 : Int64))) (by decide +kernel))
    | 24, _ => exact va_eqtl (z := 1) (hs (Cond.eq (.elem (.static "PalletRounds" "CHOICES" "[J") (.int (24 : Int32))) (.long (1 : Int64))) (by decide +kernel))
    | 25, _ => exact va_eqtl (z := 0) (hs (Cond.eq (.elem (.static "PalletRounds" "CHOICES" "[J") (.int (25 : Int32))) (.long (0 : Int64))) (by decide +kernel))
    | 26, _ => exact va_eqtl (z := 0) (hs (Cond.eq (.elem (.static "PalletRounds" "CHOICES" "[J") (.int (26 : Int32))) (.long (0 : Int64))) (by decide +kernel))
    | 27, _ => exact va_eqtl (z := 0) (hs (Cond.eq (.elem (.static "PalletRounds" "CHOICES" "[J") (.int (27 : Int32))) (.long (0 : Int64))) (by decide +kernel))
    | 28, _ => exact va_eqtl (z := 1) (hs (Cond.eq (.elem (.static "PalletRounds" "CHOICES" "[J") (.int (28 : Int32))) (.long (1 : Int64))) (by decide +kernel))
    | 29, _ => exact va_eqtl (z := 4) (hs (Cond.eq (.elem (.static "PalletRounds" "CHOICES" "[J") (.int (29 : Int32))) (.long (4 : Int64))) (by decide +kernel))
    | 30, _ => exact va_eqtl (z := 6) (hs (Cond.eq (.elem (.static "PalletRounds" "CHOICES" "[J") (.int (30 : Int32))) (.long (6 : Int64))) (by decide +kernel))
    | 31, _ => exact va_eqtl (z := 4) (hs (Cond.eq (.elem (.static "PalletRounds" "CHOICES" "[J") (.int (31 : Int32))) (.long (4 : Int64))) (by decide +kernel))
    | 32, _ => exact va_eqtl (z := 1) (hs (Cond.eq (.elem (.static "PalletRounds" "CHOICES" "[J") (.int (32 : Int32))) (.long (1 : Int64))) (by decide +kernel))
    | 33, _ => exact va_eqtl (z := 0) (hs (Cond.eq (.elem (.static "PalletRounds" "CHOICES" "[J") (.int (33 : Int32))) (.long (0 : Int64))) (by decide +kernel))
    | 34, _ => exact va_eqtl (z := 0) (hs (Cond.eq (.elem (.static "PalletRounds" "CHOICES" "[J") (.int (34 : Int32))) (.long (0 : Int64))) (by decide +kernel))
    | 35, _ => exact va_eqtl (z := 1) (hs (Cond.eq (.elem (.static "PalletRounds" "CHOICES" "[J") (.int (35 : Int32))) (.long (1 : Int64))) (by decide +kernel))
    | 36, _ => exact va_eqtl (z := 5) (hs (Cond.eq (.elem (.static "PalletRounds" "CHOICES" "[J") (.int (36 : Int32))) (.long (5 : Int64))) (by decide +kernel))
    | 37, _ => exact va_eqtl (z := 10) (hs (Cond.eq (.elem (.static "PalletRounds" "CHOICES" "[J") (.int (37 : Int32))) (.long (10 : Int64))) (by decide +kernel))
    | 38, _ => exact va_eqtl (z := 10) (hs (Cond.eq (.elem (.static "PalletRounds" "CHOICES" "[J") (.int (38 : Int32))) (.long (10 : Int64))) (by decide +kernel))
    | 39, _ => exact va_eqtl (z := 5) (hs (Cond.eq (.elem (.static "PalletRounds" "CHOICES" "[J") (.int (39 : Int32))) (.long (5 : Int64))) (by decide +kernel))
    | 40, _ => exact va_eqtl (z := 1) (hs (Cond.eq (.elem (.static "PalletRounds" "CHOICES" "[J") (.int (40 : Int32))) (.long (1 : Int64))) (by decide +kernel))
    | 41, _ => exact va_eqtl (z := 0) (hs (Cond.eq (.elem (.static "PalletRounds" "CHOICES" "[J") (.int (41 : Int32))) (.long (0 : Int64))) (by decide +kernel))
    | 42, _ => exact va_eqtl (z := 1) (hs (Cond.eq (.elem (.static "PalletRounds" "CHOICES" "[J") (.int (42 : Int32))) (.long (1 : Int64))) (by decide +kernel))
    | 43, _ => exact va_eqtl (z := 6) (hs (Cond.eq (.elem (.static "PalletRounds" "CHOICES" "[J") (.int (43 : Int32))) (.long (6 : Int64))) (by decide +kernel))
    | 44, _ => exact va_eqtl (z := 15) (hs (Cond.eq (.elem (.static "PalletRounds" "CHOICES" "[J") (.int (44 : Int32))) (.long (15 : Int64))) (by decide +kernel))
    | 45, _ => exact va_eqtl (z := 20) (hs (Cond.eq (.elem (.static "PalletRounds" "CHOICES" "[J") (.int (45 : Int32))) (.long (20 : Int64))) (by decide +kernel))
    | 46, _ => exact va_eqtl (z := 15) (hs (Cond.eq (.elem (.static "PalletRounds" "CHOICES" "[J") (.int (46 : Int32))) (.long (15 : Int64))) (by decide +kernel))
    | 47, _ => exact va_eqtl (z := 6) (hs (Cond.eq (.elem (.static "PalletRounds" "CHOICES" "[J") (.int (47 : Int32))) (.long (6 : Int64))) (by decide +kernel))
    | 48, _ => exact va_eqtl (z := 1) (hs (Cond.eq (.elem (.static "PalletRounds" "CHOICES" "[J") (.int (48 : Int32))) (.long (1 : Int64))) (by decide +kernel))
    | k + 49, h => exact absurd h (by omega)) hA
  exact ⟨t, va_Zref (hts _ (List.mem_of_getElem? (i := 552) (by decide +kernel))) (hts _ (List.mem_of_getElem? (i := 64) (by decide +kernel))) h1 hA, h2⟩
