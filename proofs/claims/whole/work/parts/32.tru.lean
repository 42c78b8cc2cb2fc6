/-! IN TRUTH: who stands where, as lists -/
abbrev qXs : Type := (Nat → List Nat) × (Nat → Nat) × List (Nat × Nat) × (Nat → Int32)
def xQ (X : qXs) : Nat → List Nat := X.1
def xR (X : qXs) : Nat → Nat := X.2.1
def xL (X : qXs) : List (Nat × Nat) := X.2.2.1
def xP (X : qXs) : Nat → Int32 := X.2.2.2
def lupd (Q : Nat → List Nat) (s : Nat) (l : List Nat) : Nat → List Nat := fun j => if j = s then l else Q j
theorem lupd_at (Q : Nat → List Nat) (s : Nat) (l : List Nat) : lupd Q s l s = l := if_pos rfl
theorem lupd_ne (Q : Nat → List Nat) {s j : Nat} (l : List Nat) (h : j ≠ s) : lupd Q s l j = Q j := if_neg h
def xcl (n0 x : Nat) : Nat := if n0 ≤ x then 1 else 0
theorem xcl_2 (n0 x : Nat) : xcl n0 x < 2 := by unfold xcl; split <;> omega
def updp (p : Nat → Int32) (k : Nat) : Nat → Int32 := upd p k (p k + 1)
/-- the i-th at a station is worked at -/
def xwk (n0 s i : Nat) (X : qXs) : Bool × qXs :=
  if xR X ((xQ X s).getD i 0) ≤ 1 then (true, (lupd (xQ X) s ((xQ X s).eraseIdx i), fupd (xR X) ((xQ X s).getD i 0) 0, xL X ++ [((xQ X s).getD i 0, s)], updp (xP X) (5 * xcl n0 ((xQ X s).getD i 0) + s)))
  else (false, (xQ X, fupd (xR X) ((xQ X s).getD i 0) (xR X ((xQ X s).getD i 0) - 1), xL X, xP X))
def xV (d : qD) (X : qXs) : Prop := (∀ s x, s < 5 → x ∈ xQ X s → x < 8 ∧ qin d (xcl (qP d 0) x) s ∧ 1 ≤ xR X x ∧ xR X x ≤ 9) ∧ (∀ y, y ∈ xL X → y.1 < 8 ∧ qin d (xcl (qP d 0) y.1) y.2) ∧ (∀ x, qsm (fun s => (xQ X s).count x) 5 + ((xL X).map Prod.fst).count x = if x < qP d 0 + qP d 1 then 1 else 0) ∧ qsm (fun s => (xQ X s).length) 5 + (xL X).length = qP d 0 + qP d 1
/-- the class's rows hold it -/
def xC (n0 : Nat) (M : pm_M) (X : qXs) : Prop := (∀ s, s < 5 → M.1 32 s = nI (xQ X s).length) ∧ (∀ s i, s < 5 → i < (xQ X s).length → M.1 31 (8 * s + i) = nI ((xQ X s).getD i 0)) ∧ (∀ s x, s < 5 → x ∈ xQ X s → M.1 34 x = nI (xR X x) ∧ M.1 33 x = nI s) ∧ (∀ k, k < 10 → M.1 35 k = xP X k) ∧ M.1 30 5 = nI (xL X).length ∧ (∀ i, i < (xL X).length → M.1 36 i = nI ((xL X).getD i (0, 0)).1) ∧ (∀ y, y ∈ xL X → M.1 33 y.1 = nI y.2) ∧ M.1 30 2 = nI n0
/-- the reference's rows hold it -/
def xM (M : pm_M) (X : qXs) : Prop := (∀ s, s < 5 → M.1 66 s = nI (xQ X s).length) ∧ (∀ s i, s < 5 → i < (xQ X s).length → M.1 67 (8 * s + i) = nI ((xQ X s).getD i 0)) ∧ (∀ s x, s < 5 → x ∈ xQ X s → M.1 68 x = nI (xR X x)) ∧ (∀ k, k < 10 → M.1 69 k = xP X k) ∧ M.1 49 29 = nI (xL X).length ∧ ∀ i, i < (xL X).length → M.1 70 i = nI ((xL X).getD i (0, 0)).1 ∧ M.1 71 i = nI ((xL X).getD i (0, 0)).2
theorem getD_mem {l : List Nat} {i : Nat} (h : i < l.length) : l.getD i 0 ∈ l := by
  rw [List.getD_eq_getElem?_getD, List.getElem?_eq_getElem h]
  exact List.getElem_mem h
theorem getD_er (l : List Nat) (i j : Nat) : (l.eraseIdx i).getD j 0 = if j < i then l.getD j 0 else l.getD (j + 1) 0 := by
  rw [List.getD_eq_getElem?_getD, List.getElem?_eraseIdx]
  by_cases h : j < i
  · rw [if_pos h, if_pos h, List.getD_eq_getElem?_getD]
  · rw [if_neg h, if_neg h, List.getD_eq_getElem?_getD]
theorem len_er {l : List Nat} {i : Nat} (h : i < l.length) : (l.eraseIdx i).length = l.length - 1 := by
  rw [List.length_eraseIdx, if_pos h]
theorem mem_er {l : List Nat} {i x : Nat} (h : x ∈ l.eraseIdx i) : x ∈ l := List.mem_of_mem_eraseIdx h
theorem count_er (x : Nat) : ∀ (l : List Nat) (i : Nat), i < l.length → (l.eraseIdx i).count x + (if l.getD i 0 = x then 1 else 0) = l.count x
  | [], i, h => by exact absurd h (Nat.not_lt_zero i)
  | y :: l, 0, _ => by
    show l.count x + (if y = x then 1 else 0) = (y :: l).count x
    rw [List.count_cons]
    by_cases q : y = x
    · rw [if_pos q, if_pos (by rw [q]; exact beq_self_eq_true x)]
    · rw [if_neg q, if_neg (by simpa using q)]
  | y :: l, i + 1, h => by
    have ih := count_er x l i (by simpa using h)
    show (y :: l.eraseIdx i).count x + (if l.getD i 0 = x then 1 else 0) = (y :: l).count x
    rw [List.count_cons, List.count_cons, ← ih]
    omega
theorem qsm_ch (g : Nat → Nat) (s a : Nat) : ∀ n, s < n → qsm (fun j => if j = s then a else g j) n + g s = qsm g n + a
  | 0, h => by omega
  | n + 1, h => by
    show qsm (fun j => if j = s then a else g j) n + (if n = s then a else g n) + g s = qsm g n + g n + a
    by_cases q : n = s
    · rw [if_pos q, qsm_cg (g := g) n (fun j hj => if_neg (by omega)), q]
      omega
    · have := qsm_ch g s a n (by omega)
      rw [if_neg q]
      omega
theorem qsm_lu (f : List Nat → Nat) (Q : Nat → List Nat) {s : Nat} (l : List Nat) (hs : s < 5) : qsm (fun j => f (lupd Q s l j)) 5 + f (Q s) = qsm (fun j => f (Q j)) 5 + f l := by
  rw [← qsm_ch (fun j => f (Q j)) s (f l) 5 hs]
  congr 1
  refine qsm_cg 5 (fun j _ => ?_)
  unfold lupd
  by_cases q : j = s
  · rw [if_pos q, if_pos q]
  · rw [if_neg q, if_neg q]
theorem xlen {d : qD} (hd : qOK d) {X : qXs} (h : xV d X) {s : Nat} (hs : s < 5) : (xQ X s).length + (xL X).length ≤ 8 := by
  have h1 := h.2.2.2
  have h2 := qsm_at (f := fun s => (xQ X s).length) 5 hs
  have h3 := hd.2.2.2.2.2.2.1
  omega
/-- nobody stands at two places -/
theorem xuniq {d : qD} {X : qXs} (h : xV d X) {s t x : Nat} (hs : s < 5) (ht : t < 5) (h1 : x ∈ xQ X s) (h2 : x ∈ xQ X t) : s = t := by
  apply Classical.byContradiction
  intro q
  have h3 := h.2.2.1 x
  have c1 := List.count_pos_iff.mpr h1
  have c2 := List.count_pos_iff.mpr h2
  have e := qsm_lu (fun l => l.count x) (xQ X) [] hs
  have m := qsm_at (f := fun j => (lupd (xQ X) s [] j).count x) 5 ht
  rw [lupd_ne _ _ (fun z => q z.symm)] at m
  have e0 : ([] : List Nat).count x = 0 := rfl
  rw [e0] at e
  have : (if x < qP d 0 + qP d 1 then 1 else 0) ≤ 1 := by split <;> omega
  omega
/-- who leaves stands nowhere -/
theorem xuniL {d : qD} {X : qXs} (h : xV d X) {s x : Nat} (hs : s < 5) (h1 : x ∈ xQ X s) (y : Nat × Nat) (h2 : y ∈ xL X) : y.1 ≠ x := by
  intro q
  have h3 := h.2.2.1 x
  have c1 := List.count_pos_iff.mpr h1
  have c2 : 0 < ((xL X).map Prod.fst).count x := List.count_pos_iff.mpr (by rw [← q]; exact List.mem_map_of_mem h2)
  have m := qsm_at (f := fun j => (xQ X j).count x) 5 hs
  have : (if x < qP d 0 + qP d 1 then 1 else 0) ≤ 1 := by split <;> omega
  omega
theorem xcnt1 {d : qD} {X : qXs} (h : xV d X) {s x : Nat} (hs : s < 5) : (xQ X s).count x ≤ 1 := by
  have h3 := h.2.2.1 x
  have m := qsm_at (f := fun j => (xQ X j).count x) 5 hs
  have : (if x < qP d 0 + qP d 1 then 1 else 0) ≤ 1 := by split <;> omega
  omega
theorem xwk_V {d : qD} {X : qXs} (h : xV d X) {s i : Nat} (hs : s < 5) (hi : i < (xQ X s).length) : xV d (xwk (qP d 0) s i X).2 := by
  obtain ⟨v1, v2, v3, v4⟩ := id h
  have hx := getD_mem hi
  obtain ⟨b1, b2, b3, b4⟩ := v1 s _ hs hx
  have c1 := fun x => count_er x (xQ X s) i hi
  generalize hxx : (xQ X s).getD i 0 = x at *
  have hno : ∀ t, t < 5 → x ∉ lupd (xQ X) s ((xQ X s).eraseIdx i) t := by
    intro t ht hm
    by_cases q : t = s
    · rw [q, lupd_at] at hm
      have k1 := c1 x
      rw [if_pos rfl] at k1
      have k2 := xcnt1 (x := x) h hs
      have k3 := List.count_pos_iff.mpr hm
      omega
    · rw [lupd_ne _ _ q] at hm
      exact q (xuniq h ht hs hm hx)
  have hsubm : ∀ t y, y ∈ lupd (xQ X) s ((xQ X s).eraseIdx i) t → y ∈ xQ X t := by
    intro t y hm
    by_cases q : t = s
    · rw [q, lupd_at] at hm
      rw [q]
      exact mem_er hm
    · rwa [lupd_ne _ _ q] at hm
  unfold xwk
  rw [hxx]
  by_cases z : xR X x ≤ 1
  · rw [if_pos z]
    refine ⟨fun t y ht hm => ?_, fun y hy => ?_, fun y => ?_, ?_⟩
    · have hm' : y ∈ lupd (xQ X) s ((xQ X s).eraseIdx i) t := hm
      have hne : y ≠ x := fun q => hno t ht (q ▸ hm')
      obtain ⟨k1, k2, k3, k4⟩ := v1 t y ht (hsubm t y hm')
      refine ⟨k1, k2, ?_, ?_⟩
      · show 1 ≤ fupd (xR X) x 0 y
        rw [fupd_ne _ _ hne]; exact k3
      · show fupd (xR X) x 0 y ≤ 9
        rw [fupd_ne _ _ hne]; exact k4
    · have hy' : y ∈ xL X ++ [(x, s)] := hy
      rcases List.mem_append.mp hy' with q | q
      · exact v2 y q
      · rw [List.mem_singleton] at q
        rw [q]
        exact ⟨b1, b2⟩
    · show qsm (fun t => (lupd (xQ X) s ((xQ X s).eraseIdx i) t).count y) 5 + ((xL X ++ [(x, s)]).map Prod.fst).count y = _
      have e := qsm_lu (fun l => l.count y) (xQ X) ((xQ X s).eraseIdx i) hs
      have k := c1 y
      rw [← v3 y, List.map_append, List.count_append]
      have e1 : ([(x, s)].map Prod.fst).count y = if x = y then 1 else 0 := by
        show [x].count y = _
        rw [List.count_cons]
        by_cases q : x = y
        · rw [if_pos (by rw [q]; exact beq_self_eq_true y), if_pos q]; rfl
        · rw [if_neg (by simpa using q), if_neg q]; rfl
      omega
    · show qsm (fun t => (lupd (xQ X) s ((xQ X s).eraseIdx i) t).length) 5 + (xL X ++ [(x, s)]).length = _
      have e := qsm_lu (fun l => l.length) (xQ X) ((xQ X s).eraseIdx i) hs
      rw [len_er hi] at e
      rw [List.length_append, ← v4]
      show _ + ((xL X).length + 1) = _
      omega
  · rw [if_neg z]
    refine ⟨fun t y ht hm => ?_, v2, v3, v4⟩
    obtain ⟨k1, k2, k3, k4⟩ := v1 t y ht hm
    refine ⟨k1, k2, ?_, ?_⟩
    · show 1 ≤ fupd (xR X) x (xR X x - 1) y
      unfold fupd
      split <;> omega
    · show fupd (xR X) x (xR X x - 1) y ≤ 9
      unfold fupd
      split <;> omega
/-! the class's taking out -/
theorem Truth_classOf {M : pm_M} {n0 x : Nat} (h : M.1 30 2 = nI n0) (h0 : n0 < 2 ^ 31) (hx : x < 2 ^ 31) : sTruth_classOf (nI x) M = some (nI (xcl n0 x), M) := by
  unfold sTruth_classOf xcl
  rw [h]
  by_cases q : n0 ≤ x
  · rw [if_pos ((nI_le_iff h0 hx).mpr q), if_pos q]; rfl
  · rw [if_neg (fun z => q ((nI_le_iff h0 hx).mp z)), if_neg q]; rfl
theorem q8s (s i : Nat) : nI s * (8 : Int32) + nI i = nI (8 * s + i) := by rw [show (8 : Int32) = nI 8 from rfl, nI_mul, qI_add, Nat.mul_comm]
theorem q8s' (s i : Nat) : (8 : Int32) * nI s + nI i = nI (8 * s + i) := by rw [show (8 : Int32) = nI 8 from rfl, nI_mul, qI_add]
theorem Truth_takeOut {M : pm_M} {s i n : Nat} {f : Nat → Nat} (hs : s < 5) (hi : i < n) (hn : n ≤ 8) (h32 : M.1 32 s = nI n) (h31 : ∀ j, j < n → M.1 31 (8 * s + j) = nI (f j)) : ∃ M', sTruth_takeOut (nI s) (nI i) M = some M' ∧ (∀ b, b ≠ 31 → b ≠ 32 → M'.1 b = M.1 b) ∧ M'.2 = M.2 ∧ M'.1 32 = upd (M.1 32) s (nI (n - 1)) ∧ (∀ j, j < n - 1 → M'.1 31 (8 * s + j) = nI (if j < i then f j else f (j + 1))) ∧ ∀ k, k < 8 * s ∨ 8 * s + 8 ≤ k → M'.1 31 k = M.1 31 k := by
  have hin5 : pm_in (nI s) 5 := by rw [nI_in_iff (by omega)]; omega
  have hcs : (nI s).toNatClampNeg = s := nI_cl s (by omega)
  unfold sTruth_takeOut
  rw [q_lt, q_lt, ← nI_succ]
  refine q_fz (fun o => ∃ M', o = some M' ∧ (∀ b, b ≠ 31 → b ≠ 32 → M'.1 b = M.1 b) ∧ M'.2 = M.2 ∧ M'.1 32 = upd (M.1 32) s (nI (n - 1)) ∧ (∀ j, j < n - 1 → M'.1 31 (8 * s + j) = nI (if j < i then f j else f (j + 1))) ∧ ∀ k, k < 8 * s ∨ 8 * s + 8 ≤ k → M'.1 31 k = M.1 31 k) (fun m N (g : Int32 → pm_M → Option pm_M) => g (nI (i + 1 + m)) N) (fun m N => (∀ b, b ≠ 31 → N.1 b = M.1 b) ∧ N.2 = M.2 ∧ (∀ j, j < n → N.1 31 (8 * s + j) = nI (if j < i then f j else if j < i + m then f (j + 1) else f j)) ∧ ∀ k, k < 8 * s ∨ 8 * s + 8 ≤ k → N.1 31 k = M.1 31 k) (n - 1 - i) ?_ ?_ (n := 1000000) (by omega) (a := M) ⟨fun _ _ => rfl, rfl, fun j hj => by
    rw [h31 j hj]
    congr 1
    by_cases q : j < i
    · rw [if_pos q]
    · rw [if_neg q, if_neg (by omega)], fun _ _ => rfl⟩
  · rintro m N hm ⟨n1, n2, n3, n4⟩ g
    have h1 : pm_in (nI (8 * s + (i + 1 + m))) 40 := by rw [nI_in_iff (by omega)]; omega
    have h2 : pm_in (nI (8 * s + (i + m))) 40 := by rw [nI_in_iff (by omega)]; omega
    have e2 : nI (8 * s + (i + 1 + m)) - (1 : Int32) = nI (8 * s + (i + m)) := by rw [q1, nI_sub (by omega)]; congr 1; omega
    have hc1 : (nI (8 * s + (i + 1 + m))).toNatClampNeg = 8 * s + (i + 1 + m) := nI_cl _ (by omega)
    have hc2 : (nI (8 * s + (i + m))).toNatClampNeg = 8 * s + (i + m) := nI_cl _ (by omega)
    simp only [eq_true hin5, hcs, if_true, q8s, e2, eq_true h1, eq_true h2, hc1, hc2]
    rw [n1 32 (by decide), h32, if_neg (by rw [nI_le_iff (by omega) (by omega)]; omega), q_lt, q_lt, ← nI_succ, n3 _ (by omega), if_neg (by omega), if_neg (by omega)]
    refine ⟨_, ⟨?_, ?_, ?_, ?_⟩, rfl⟩
    · intro b hb
      rw [sI_1, if_neg hb]
      exact n1 b hb
    · exact n2
    · intro j hj
      rw [sI_1, if_pos rfl]
      unfold upd
      by_cases q : j = i + m
      · rw [if_pos (by omega), if_neg (by omega), if_pos (by omega)]
        congr 2
        omega
      · rw [if_neg (by omega), n3 j hj]
        congr 1
        by_cases q1 : j < i
        · rw [if_pos q1, if_pos q1]
        · rw [if_neg q1, if_neg q1]
          by_cases q2 : j < i + m
          · rw [if_pos q2, if_pos (by omega)]
          · rw [if_neg q2, if_neg (by omega)]
    · intro k hk
      rw [sI_1, if_pos rfl]
      unfold upd
      rw [if_neg (by omega)]
      exact n4 k hk
  · rintro N ⟨n1, n2, n3, n4⟩ g
    simp only [eq_true hin5, hcs, if_true]
    rw [n1 32 (by decide), h32, if_pos (by rw [nI_le_iff (by omega) (by omega)]; omega), q_lt, q1, nI_sub (by omega), sI_u]
    refine ⟨_, rfl, fun b hb hb2 => by rw [uI_0 _ _ _ _ hb2, n1 b hb], n2, by rw [uI_a, n1 32 (by decide)], fun j hj => ?_, fun k hk => by rw [uI_0 _ _ _ _ (by decide)]; exact n4 k hk⟩
    rw [uI_0 _ _ _ _ (by decide), n3 j (by omega)]
    congr 1
    by_cases q1 : j < i
    · rw [if_pos q1, if_pos q1]
    · rw [if_neg q1, if_neg q1, if_pos (by omega)]
