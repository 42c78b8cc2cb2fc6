/-! IN TRUTH: serving a station, the reference's side -/
def xfR (M M' : pm_M) : Prop := (∀ b, b ∉ [49, 66, 67, 68, 69, 70, 71] → M'.1 b = M.1 b) ∧ (∀ k, k ≠ 29 → M'.1 49 k = M.1 49 k) ∧ M'.2 = M.2
theorem xfR_rf {M : pm_M} : xfR M M := ⟨fun _ _ => rfl, fun _ _ => rfl, rfl⟩
theorem xfR_tr {M M1 M2 : pm_M} (h1 : xfR M M1) (h2 : xfR M1 M2) : xfR M M2 := ⟨fun b hb => (h2.1 b hb).trans (h1.1 b hb), fun k hk => (h2.2.1 k hk).trans (h1.2.1 k hk), h2.2.2.trans h1.2.2⟩
theorem R_goes_to {M : pm_M} {s i n : Nat} {f : Nat → Nat} (Z : Option pm_M → Prop) (a3 : Int32) (hs : s < 5) (hi : i < n) (hn : n ≤ 8) (h66 : M.1 66 s = nI n) (h67 : ∀ j, j < n → M.1 67 (8 * s + j) = nI (f j)) (hz : ∀ M6 : pm_M, (∀ b, b ≠ 67 → M6.1 b = M.1 b) → M6.2 = M.2 → (∀ j, j < n → M6.1 67 (8 * s + j) = nI (if j < i then f j else if j < n - 1 then f (j + 1) else f i)) → (∀ k, k < 8 * s ∨ 8 * s + 8 ≤ k → M6.1 67 k = M.1 67 k) → Z (if ¬ a3 = 0 then (pm_lt (pm_sI M6 66 s (((M6.1 66 s) - (1 : Int32)))) fun M7 => if pm_in (M7.1 49 29) 8 then (pm_lt (pm_sI M7 70 (M7.1 49 29).toNatClampNeg (nI (f i))) fun M8 => if pm_in (M8.1 49 29) 8 then (pm_lt (pm_sI M8 71 (M8.1 49 29).toNatClampNeg (nI s)) fun M9 => pm_lt (pm_sI M9 49 29 (((M9.1 49 29) + (1 : Int32)))) fun M10 => pm_bd (sR_classOf (nI (f i)) M10) fun v12 M11 => if pm_in (((5 : Int32) * v12) + nI s) 10 then (if pm_in (((5 : Int32) * v12) + nI s) 10 then (pm_lt (pm_sI M11 69 (((5 : Int32) * v12) + nI s).toNatClampNeg (((M11.1 69 (((5 : Int32) * v12) + nI s).toNatClampNeg) + (1 : Int32)))) fun M13 => some M13) else none) else none) else none) else none) else (some M6))) : Z (sR_goes (nI s) (nI i) a3 M) := by
  have hin5 : pm_in (nI s) 5 := by rw [nI_in_iff (by omega)]; omega
  have hcs : (nI s).toNatClampNeg = s := nI_cl s (by omega)
  have j1 : pm_in (nI (8 * s + i)) 40 := by rw [nI_in_iff (by omega)]; omega
  have k1 : (nI (8 * s + i)).toNatClampNeg = 8 * s + i := nI_cl _ (by omega)
  unfold sR_goes
  rw [q8s', if_pos j1, k1, h67 i hi, q_lt, q_lt, ← nI_succ]
  refine q_fz Z (fun m N (g : Int32 → pm_M → Option pm_M) => g (nI (i + 1 + m)) N) (fun m N => (∀ b, b ≠ 67 → N.1 b = M.1 b) ∧ N.2 = M.2 ∧ (∀ j, j < n → N.1 67 (8 * s + j) = nI (if j < i then f j else if j < i + m then f (j + 1) else f j)) ∧ ∀ k, k < 8 * s ∨ 8 * s + 8 ≤ k → N.1 67 k = M.1 67 k) (n - 1 - i) ?_ ?_ (n := 1000000) (by omega) (a := M) ⟨fun _ _ => rfl, rfl, fun j hj => by
    rw [h67 j hj]
    congr 1
    by_cases q : j < i
    · rw [if_pos q]
    · rw [if_neg q, if_neg (by omega)], fun _ _ => rfl⟩
  · rintro m N hm ⟨n1, n2, n3, n4⟩ g
    have h1 : pm_in (nI (8 * s + (i + 1 + m))) 40 := by rw [nI_in_iff (by omega)]; omega
    have h2 : pm_in (nI (8 * s + (i + m))) 40 := by rw [nI_in_iff (by omega)]; omega
    have e2 : nI (8 * s + (i + 1 + m)) - (1 : Int32) = nI (8 * s + (i + m)) := by rw [q1, nI_sub (by omega)]; congr 1; omega
    have hc1 : (nI (8 * s + (i + 1 + m))).toNatClampNeg = 8 * s + (i + 1 + m) := nI_cl _ (by omega)
    have hc2 : (nI (8 * s + (i + m))).toNatClampNeg = 8 * s + (i + m) := nI_cl _ (by omega)
    simp only [eq_true hin5, hcs, if_true]
    rw [n1 66 (by decide), h66, if_neg (by rw [nI_le_iff (by omega) (by omega)]; omega), q8s', if_pos h1, e2, if_pos h2, hc1, hc2, q_lt, q_lt, ← nI_succ, n3 _ (by omega), if_neg (by omega), if_neg (by omega)]
    refine ⟨_, ⟨?_, ?_, ?_, ?_⟩, rfl⟩
    · intro b hb
      rw [sI_1, if_neg hb]
      exact n1 b hb
    · exact n2
    · intro j hj
      rw [sI_1, if_pos rfl]
      unfold upd
      by_cases q : j = i + m
      · rw [if_pos (by omega), if_neg (by omega), if_pos (by omega)]
        congr 2
        omega
      · rw [if_neg (by omega), n3 j hj]
        congr 1
        by_cases q1 : j < i
        · rw [if_pos q1, if_pos q1]
        · rw [if_neg q1, if_neg q1]
          by_cases q2 : j < i + m
          · rw [if_pos q2, if_pos (by omega)]
          · rw [if_neg q2, if_neg (by omega)]
    · intro k hk
      rw [sI_1, if_pos rfl]
      unfold upd
      rw [if_neg (by omega)]
      exact n4 k hk
  · rintro N ⟨n1, n2, n3, n4⟩ g
    have h2 : pm_in (nI (8 * s + (n - 1))) 40 := by rw [nI_in_iff (by omega)]; omega
    have e2 : nI (8 * s + n) - (1 : Int32) = nI (8 * s + (n - 1)) := by rw [q1, nI_sub (by omega)]; congr 1; omega
    simp only [eq_true hin5, hcs, if_true]
    rw [n1 66 (by decide), h66, if_pos (by rw [nI_le_iff (by omega) (by omega)]; omega), q8s', e2, if_pos h2, nI_cl _ (by omega), q_lt]
    refine hz _ (fun b hb => by rw [sI_1, if_neg hb]; exact n1 b hb) n2 (fun j hj => ?_) (fun k hk => ?_)
    · rw [sI_1, if_pos rfl]
      unfold upd
      by_cases q : j = n - 1
      · rw [if_pos (by omega), if_neg (by omega), if_neg (by omega)]
      · rw [if_neg (by omega), n3 j hj]
        congr 1
        by_cases q1 : j < i
        · rw [if_pos q1, if_pos q1]
        · rw [if_neg q1, if_neg q1, if_pos (by omega), if_pos (by omega)]
    · rw [sI_1, if_pos rfl]
      unfold upd
      rw [if_neg (by omega)]
      exact n4 k hk
theorem R_classOf {d : qD} {M : pm_M} (hR : qR M d) (hd : qOK d) {x : Nat} (hx : x < 2 ^ 31) : sR_classOf (nI x) M = some (nI (xcl (qP d 0) x), M) := by
  have hP := hd.2.2.2.2.2.1 0
  unfold sR_classOf xcl
  rw [hR.2.2.2.2.1]
  by_cases q : qP d 0 ≤ x
  · rw [if_pos ((nI_le_iff (by omega) hx).mpr q), if_pos q]; rfl
  · rw [if_neg (fun z => q ((nI_le_iff (by omega) hx).mp z)), if_neg q]; rfl
/-- one's rest is less by one -/
theorem R_isOver {d : qD} {M : pm_M} (hd : qOK d) {X : qXs} (h : xM M X) (hv : xV d X) {s i : Nat} (hs : s < 5) (hi : i < (xQ X s).length) : sR_isOver (nI s) (nI i) M = some (if (xwk (qP d 0) s i X).1 = true then 1 else 0, mu_I M 68 (upd (M.1 68) ((xQ X s).getD i 0) (nI (xR X ((xQ X s).getD i 0) - 1)))) := by
  obtain ⟨c1, c2, c3, c4, c5, c6⟩ := h
  have hl8 := xlen hd hv hs
  have hx := getD_mem hi
  obtain ⟨b1, b2, b3, b4⟩ := hv.1 s _ hs hx
  have hrow := c2 s i hs hi
  have hrest := c3 s _ hs hx
  unfold xwk
  generalize hxx : (xQ X s).getD i 0 = x at *
  have j1 : pm_in (nI (8 * s + i)) 40 := by rw [nI_in_iff (by omega)]; omega
  have j2 : pm_in (nI x) 8 := by rw [nI_in_iff (by omega)]; omega
  have k1 : (nI (8 * s + i)).toNatClampNeg = 8 * s + i := nI_cl _ (by omega)
  have k2 : (nI x).toNatClampNeg = x := nI_cl _ (by omega)
  have er : nI (xR X x) - (1 : Int32) = nI (xR X x - 1) := by rw [q1, nI_sub (by omega)]
  unfold sR_isOver
  rw [q8s', if_pos j1, k1, hrow, q_lt]
  simp only [eq_true j2, k2, if_true]
  rw [hrest, er, q_lt, sI_u, uI_a, upd_at]
  by_cases z : xR X x ≤ 1
  · rw [if_pos z, if_neg (by rw [q0, nI_inj (by omega) (by omega)]; omega), if_pos rfl]
  · rw [if_neg z, if_pos (by rw [q0, nI_inj (by omega) (by omega)]; omega), if_neg (show ¬ (false = true) by decide)]
/-- and it leaves -/
theorem R_leave {d : qD} {M : pm_M} (hd : qOK d) (hR : qR M d) {X : qXs} (h : xM M X) (hv : xV d X) {s i : Nat} (hs : s < 5) (hi : i < (xQ X s).length) (hb : (xwk (qP d 0) s i X).1 = true) : ∃ M', sR_goes (nI s) (nI i) (1 : Int32) (mu_I M 68 (upd (M.1 68) ((xQ X s).getD i 0) (nI (xR X ((xQ X s).getD i 0) - 1)))) = some M' ∧ xM M' (xwk (qP d 0) s i X).2 ∧ xfR M M' := by
  obtain ⟨c1, c2, c3, c4, c5, c6⟩ := id h
  have hP0 := hd.2.2.2.2.2.1 0
  have hl8 := xlen hd hv hs
  have hx := getD_mem hi
  obtain ⟨b1, b2, b3, b4⟩ := hv.1 s _ hs hx
  have huni := fun t ht (hm : (xQ X s).getD i 0 ∈ xQ X t) => xuniq hv ht hs hm hx
  have hcnt := xcnt1 (x := (xQ X s).getD i 0) hv hs
  have hcer := count_er ((xQ X s).getD i 0) (xQ X s) i hi
  rw [if_pos rfl] at hcer
  have hf : ∀ j, j < (xQ X s).length → M.1 67 (8 * s + j) = nI ((xQ X s).getD j 0) := fun j hj => c2 s j hs hj
  have hxw : xwk (qP d 0) s i X = (true, (lupd (xQ X) s ((xQ X s).eraseIdx i), fupd (xR X) ((xQ X s).getD i 0) 0, xL X ++ [((xQ X s).getD i 0, s)], updp (xP X) (5 * xcl (qP d 0) ((xQ X s).getD i 0) + s))) := by
    unfold xwk at hb ⊢
    by_cases z : xR X ((xQ X s).getD i 0) ≤ 1
    · rw [if_pos z]
    · rw [if_neg z] at hb
      exact absurd hb (show ¬ (false = true) by decide)
  rw [hxw]
  have hcl := xcl_2 (qP d 0) ((xQ X s).getD i 0)
  have p1 : ∀ b, b ≠ 68 → (mu_I M 68 (upd (M.1 68) ((xQ X s).getD i 0) (nI (xR X ((xQ X s).getD i 0) - 1)))).1 b = M.1 b := fun b hb => uI_0 _ _ _ _ hb
  have p2 : (mu_I M 68 (upd (M.1 68) ((xQ X s).getD i 0) (nI (xR X ((xQ X s).getD i 0) - 1)))).1 68 = upd (M.1 68) ((xQ X s).getD i 0) (nI (xR X ((xQ X s).getD i 0) - 1)) := uI_a _ _ _
  have p3 : (mu_I M 68 (upd (M.1 68) ((xQ X s).getD i 0) (nI (xR X ((xQ X s).getD i 0) - 1)))).2 = M.2 := rfl
  generalize mu_I M 68 (upd (M.1 68) ((xQ X s).getD i 0) (nI (xR X ((xQ X s).getD i 0) - 1))) = N0 at p1 p2 p3 ⊢
  refine R_goes_to (M := N0) (f := fun j => (xQ X s).getD j 0) (fun o => ∃ M', o = some M' ∧ xM M' (true, (lupd (xQ X) s ((xQ X s).eraseIdx i), fupd (xR X) ((xQ X s).getD i 0) 0, xL X ++ [((xQ X s).getD i 0, s)], updp (xP X) (5 * xcl (qP d 0) ((xQ X s).getD i 0) + s))).2 ∧ xfR M M') 1 hs hi (by omega) (by rw [p1 66 (by decide)]; exact c1 s hs) (fun j hj => by rw [p1 67 (by decide)]; exact hf j hj) ?_
  intro M6 g1 g2 g3 g4
  generalize hxx : (xQ X s).getD i 0 = x at *
  have j4 : pm_in (nI (xL X).length) 8 := by rw [nI_in_iff (by omega)]; omega
  have k4 : (nI (xL X).length).toNatClampNeg = (xL X).length := nI_cl _ (by omega)
  have j3 : pm_in (nI (5 * xcl (qP d 0) x + s)) 10 := by rw [nI_in_iff (by omega)]; omega
  have k3 : (nI (5 * xcl (qP d 0) x + s)).toNatClampNeg = 5 * xcl (qP d 0) x + s := nI_cl _ (by omega)
  have h66 : M6.1 66 s = nI (xQ X s).length := by rw [g1 66 (by decide), p1 66 (by decide)]; exact c1 s hs
  have h49 : M6.1 49 29 = nI (xL X).length := by rw [g1 49 (by decide), p1 49 (by decide)]; exact c5
  have o6 : ∀ b, b ≠ 67 → b ≠ 68 → M6.1 b = M.1 b := fun b hb hb2 => by rw [g1 b hb, p1 b hb2]
  have e1 : nI (xQ X s).length - (1 : Int32) = nI ((xQ X s).length - 1) := by rw [q1, nI_sub (by omega)]
  have f1 : ∀ v, (pm_sI M6 66 s v).1 49 29 = nI (xL X).length := fun v => by rw [sI_1, if_neg (by decide)]; exact h49
  have f2 : ∀ v w, (pm_sI (pm_sI M6 66 s v) 70 (xL X).length w).1 49 29 = nI (xL X).length := fun v w => by rw [sI_1, if_neg (by decide), sI_1, if_neg (by decide)]; exact h49
  have f3 : ∀ v w u, (pm_sI (pm_sI (pm_sI M6 66 s v) 70 (xL X).length w) 71 (xL X).length u).1 49 29 = nI (xL X).length := fun v w u => by rw [sI_1, if_neg (by decide), sI_1, if_neg (by decide), sI_1, if_neg (by decide)]; exact h49
  rw [if_pos (by decide), q_lt, h66, e1, f1, if_pos j4, k4, q_lt, f2, if_pos j4, k4, q_lt, q_lt, f3, ← nI_succ]
  have hR10 : ∀ v w u y, qR (pm_sI (pm_sI (pm_sI (pm_sI M6 66 s v) 70 (xL X).length w) 71 (xL X).length u) 49 29 y) d := fun v w u y => qR_of hR (by
      rw [sI_1, if_pos rfl]
      unfold upd
      rw [if_neg (by decide), sI_1, if_neg (by decide), sI_1, if_neg (by decide), sI_1, if_neg (by decide), o6 49 (by decide) (by decide)]) (fun b hb hb2 => by
      rw [sI_1, if_neg (by omega), sI_1, if_neg (by omega), sI_1, if_neg (by omega), sI_1, if_neg (by omega), o6 b (by omega) (by omega)])
  rw [R_classOf (hR10 _ _ _ _) hd (by omega), q_bd, qcs, if_pos j3, if_pos j3, k3, q_lt]
  have hne : ∀ t y, t < 5 → y ∈ lupd (xQ X) s ((xQ X s).eraseIdx i) t → y ≠ x ∧ y ∈ xQ X t := by
    intro t y ht hm
    by_cases q : t = s
    · rw [q, lupd_at] at hm
      refine ⟨fun u => ?_, by rw [q]; exact mem_er hm⟩
      rw [u] at hm
      have := List.count_pos_iff.mpr hm
      omega
    · rw [lupd_ne _ _ q] at hm
      exact ⟨fun u => q (huni t ht (u ▸ hm)), hm⟩
  refine ⟨_, rfl, ⟨fun t ht => ?_, fun t j ht hj => ?_, fun t y ht hm => ?_, fun k hk => ?_, ?_, fun j hj => ?_⟩, ⟨fun b hb => ?_, fun k hk => ?_, ?_⟩⟩
  · rw [sI_1, if_neg (by decide), sI_1, if_neg (by decide), sI_1, if_neg (by decide), sI_1, if_neg (by decide), sI_1, if_pos rfl]
    show _ = nI (lupd (xQ X) s ((xQ X s).eraseIdx i) t).length
    unfold upd
    by_cases q : t = s
    · rw [if_pos q, q, lupd_at, len_er hi]
    · rw [if_neg q, lupd_ne _ _ q, o6 66 (by decide) (by decide)]
      exact c1 t ht
  · rw [sI_1, if_neg (by decide), sI_1, if_neg (by decide), sI_1, if_neg (by decide), sI_1, if_neg (by decide), sI_1, if_neg (by decide)]
    show _ = nI ((lupd (xQ X) s ((xQ X s).eraseIdx i) t).getD j 0)
    have hj' : j < (lupd (xQ X) s ((xQ X s).eraseIdx i) t).length := hj
    by_cases q : t = s
    · rw [q, lupd_at] at hj' ⊢
      rw [len_er hi] at hj'
      rw [g3 j (by omega), getD_er]
      congr 1
      by_cases u : j < i
      · rw [if_pos u, if_pos u]
      · rw [if_neg u, if_neg u, if_pos hj']
    · rw [lupd_ne _ _ q] at hj' ⊢
      have := xlen hd hv ht
      rw [g4 _ (by omega), p1 67 (by decide)]
      exact c2 t j ht hj'
  · have hm' : y ∈ lupd (xQ X) s ((xQ X s).eraseIdx i) t := hm
    obtain ⟨z1, z2⟩ := hne t y ht hm'
    rw [sI_1, if_neg (by decide), sI_1, if_neg (by decide), sI_1, if_neg (by decide), sI_1, if_neg (by decide), sI_1, if_neg (by decide), g1 68 (by decide), p2]
    show upd (M.1 68) x (nI (xR X x - 1)) y = nI (fupd (xR X) x 0 y)
    unfold upd
    rw [if_neg z1, fupd_ne _ _ z1]
    exact c3 t y ht z2
  · have h69 : ∀ v w u y, (pm_sI (pm_sI (pm_sI (pm_sI M6 66 s v) 70 (xL X).length w) 71 (xL X).length u) 49 29 y).1 69 = M.1 69 := fun v w u y => by
      rw [sI_1, if_neg (by decide), sI_1, if_neg (by decide), sI_1, if_neg (by decide), sI_1, if_neg (by decide), o6 69 (by decide) (by decide)]
    rw [sI_1, if_pos rfl, h69]
    show upd (M.1 69) _ _ k = updp (xP X) (5 * xcl (qP d 0) x + s) k
    unfold updp upd
    by_cases q : k = 5 * xcl (qP d 0) x + s
    · rw [if_pos q, if_pos q, c4 _ (by omega)]
    · rw [if_neg q, if_neg q]
      exact c4 k hk
  · rw [sI_1, if_neg (by decide), sI_1, if_pos rfl, upd_at]
    show _ = nI (xL X ++ [(x, s)]).length
    rw [List.length_append]
    rfl
  · have hj' : j < (xL X ++ [(x, s)]).length := hj
    rw [List.length_append] at hj'
    have hj2 : j < (xL X).length + 1 := hj'
    constructor
    · rw [sI_1, if_neg (by decide), sI_1, if_neg (by decide), sI_1, if_neg (by decide), sI_1, if_pos rfl, sI_1, if_neg (by decide)]
      show upd (M6.1 70) (xL X).length (nI x) j = nI ((xL X ++ [(x, s)]).getD j (0, 0)).1
      unfold upd
      by_cases q : j = (xL X).length
      · rw [if_pos q, q, getD_ap2]
      · rw [if_neg q, getD_ap1 _ _ (by omega), o6 70 (by decide) (by decide)]
        exact (c6 j (by omega)).1
    · rw [sI_1, if_neg (by decide), sI_1, if_neg (by decide), sI_1, if_pos rfl, sI_1, if_neg (by decide), sI_1, if_neg (by decide)]
      show upd (M6.1 71) (xL X).length (nI s) j = nI ((xL X ++ [(x, s)]).getD j (0, 0)).2
      unfold upd
      by_cases q : j = (xL X).length
      · rw [if_pos q, q, getD_ap2]
      · rw [if_neg q, getD_ap1 _ _ (by omega), o6 71 (by decide) (by decide)]
        exact (c6 j (by omega)).2
  · simp only [List.mem_cons, List.not_mem_nil, or_false, not_or] at hb
    rw [sI_1, if_neg (by omega), sI_1, if_neg (by omega), sI_1, if_neg (by omega), sI_1, if_neg (by omega), sI_1, if_neg (by omega), o6 b (by omega) (by omega)]
  · rw [sI_1, if_neg (by decide), sI_1, if_pos rfl]
    unfold upd
    rw [if_neg hk, sI_1, if_neg (by decide), sI_1, if_neg (by decide), sI_1, if_neg (by decide), o6 49 (by decide) (by decide)]
  · show M6.2 = M.2
    rw [g2, p3]
