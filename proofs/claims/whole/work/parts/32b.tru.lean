/-! IN TRUTH: the class's serving -/
/-- what the class's serving leaves -/
def xfC (M M' : pm_M) : Prop := (∀ b, b ∉ [30, 31, 32, 34, 35, 36] → M'.1 b = M.1 b) ∧ (∀ k, k ≠ 5 → M'.1 30 k = M.1 30 k) ∧ M'.2 = M.2
theorem xfC_rf {M : pm_M} : xfC M M := ⟨fun _ _ => rfl, fun _ _ => rfl, rfl⟩
theorem xfC_tr {M M1 M2 : pm_M} (h1 : xfC M M1) (h2 : xfC M1 M2) : xfC M M2 := ⟨fun b hb => (h2.1 b hb).trans (h1.1 b hb), fun k hk => (h2.2.1 k hk).trans (h1.2.1 k hk), h2.2.2.trans h1.2.2⟩
theorem getD_ap1 (l : List (Nat × Nat)) (y : Nat × Nat) {i : Nat} (h : i < l.length) : (l ++ [y]).getD i (0, 0) = l.getD i (0, 0) := by
  rw [List.getD_eq_getElem?_getD, List.getD_eq_getElem?_getD, List.getElem?_append_left h]
theorem getD_ap2 (l : List (Nat × Nat)) (y : Nat × Nat) : (l ++ [y]).getD l.length (0, 0) = y := by
  rw [List.getD_eq_getElem?_getD, List.getElem?_append_right (Nat.le_refl _), Nat.sub_self]
  rfl
theorem Truth_work {d : qD} {M : pm_M} (hd : qOK d) {X : qXs} (h : xC (qP d 0) M X) (hv : xV d X) {s i : Nat} (hs : s < 5) (hi : i < (xQ X s).length) : ∃ M', sTruth_work (nI s) (nI i) M = some (if (xwk (qP d 0) s i X).1 = true then 1 else 0, M') ∧ xC (qP d 0) M' (xwk (qP d 0) s i X).2 ∧ xfC M M' := by
  obtain ⟨c1, c2, c3, c4, c5, c6, c7, c8⟩ := id h
  have hP0 := hd.2.2.2.2.2.1 0
  have hl8 := xlen hd hv hs
  have hx := getD_mem hi
  obtain ⟨b1, b2, b3, b4⟩ := hv.1 s _ hs hx
  have hrow := c2 s i hs hi
  have hrest := (c3 s _ hs hx).1
  have hplace := (c3 s _ hs hx).2
  have huni := fun t ht (hm : (xQ X s).getD i 0 ∈ xQ X t) => xuniq hv ht hs hm hx
  have huL := fun y hy => xuniL hv hs hx y hy
  have hcnt := xcnt1 (x := (xQ X s).getD i 0) hv hs
  have hcer := count_er ((xQ X s).getD i 0) (xQ X s) i hi
  rw [if_pos rfl] at hcer
  unfold xwk
  generalize hxx : (xQ X s).getD i 0 = x at *
  have j1 : pm_in (nI (8 * s + i)) 40 := by rw [nI_in_iff (by omega)]; omega
  have j2 : pm_in (nI x) 8 := by rw [nI_in_iff (by omega)]; omega
  have k1 : (nI (8 * s + i)).toNatClampNeg = 8 * s + i := nI_cl _ (by omega)
  have k2 : (nI x).toNatClampNeg = x := nI_cl _ (by omega)
  have er : nI (xR X x) - (1 : Int32) = nI (xR X x - 1) := by rw [q1, nI_sub (by omega)]
  have hcl := xcl_2 (qP d 0) x
  unfold sTruth_work
  rw [q8s, if_pos j1, k1, hrow, q_lt]
  simp only [eq_true j2, k2, if_true]
  rw [hrest, er, q_lt, sI_u]
  generalize hM2 : mu_I M 34 (upd (M.1 34) x (nI (xR X x - 1))) = M2
  have m1 : ∀ b, b ≠ 34 → M2.1 b = M.1 b := fun b hb => by rw [← hM2, uI_0 _ _ _ _ hb]
  have m2 : M2.1 34 = upd (M.1 34) x (nI (xR X x - 1)) := by rw [← hM2, uI_a]
  have m3 : M2.2 = M.2 := by rw [← hM2]; rfl
  clear hM2
  rw [m2, upd_at]
  by_cases z : xR X x ≤ 1
  · rw [if_pos z]
    obtain ⟨M3, e3, t1, t2, t3, t4, t5⟩ := Truth_takeOut (M := M2) (f := fun j => (xQ X s).getD j 0) hs hi (by omega) (by rw [m1 32 (by decide)]; exact c1 s hs) (fun j hj => by rw [m1 31 (by decide)]; exact c2 s j hs hj)
    have h30 : M3.1 30 = M.1 30 := by rw [t1 30 (by decide) (by decide), m1 30 (by decide)]
    have h35 : M3.1 35 = M.1 35 := by rw [t1 35 (by decide) (by decide), m1 35 (by decide)]
    have h36 : M3.1 36 = M.1 36 := by rw [t1 36 (by decide) (by decide), m1 36 (by decide)]
    have j3 : pm_in (nI (5 * xcl (qP d 0) x + s)) 10 := by rw [nI_in_iff (by omega)]; omega
    have k3 : (nI (5 * xcl (qP d 0) x + s)).toNatClampNeg = 5 * xcl (qP d 0) x + s := nI_cl _ (by omega)
    have j4 : pm_in (nI (xL X).length) 8 := by rw [nI_in_iff (by omega)]; omega
    have k4 : (nI (xL X).length).toNatClampNeg = (xL X).length := nI_cl _ (by omega)
    rw [if_pos (by rw [q0, nI_le_iff (by omega) (by omega)]; omega), e3, q_bv, Truth_classOf (by rw [h30]; exact c8) (by omega) (by omega), q_bd, qcs', if_pos j3, if_pos j3, k3, q_lt]
    have h305 : ∀ v, (pm_sI M3 35 (5 * xcl (qP d 0) x + s) v).1 30 5 = nI (xL X).length := fun v => by rw [sI_1, if_neg (by decide), h30]; exact c5
    rw [h305, if_pos j4, k4, q_lt, q_lt]
    have h306 : ∀ v w, (pm_sI (pm_sI M3 35 (5 * xcl (qP d 0) x + s) v) 36 (xL X).length w).1 30 5 = nI (xL X).length := fun v w => by rw [sI_1, if_neg (by decide), sI_1, if_neg (by decide), h30]; exact c5
    rw [h306, ← nI_succ, h35, sI_u, sI_u, sI_u]
    refine ⟨_, rfl, ?_, ?_⟩
    · have o30 : ∀ (A : pm_M) f g h b, b ≠ 35 → b ≠ 36 → b ≠ 30 → (mu_I (mu_I (mu_I A 35 f) 36 g) 30 h).1 b = A.1 b := fun A f g h b hb hb2 hb3 => by rw [uI_0 _ _ _ _ hb3, uI_0 _ _ _ _ hb2, uI_0 _ _ _ _ hb]
      have hne : ∀ t y, t < 5 → y ∈ lupd (xQ X) s ((xQ X s).eraseIdx i) t → y ≠ x ∧ y ∈ xQ X t := by
        intro t y ht hm
        by_cases q : t = s
        · rw [q, lupd_at] at hm
          refine ⟨fun u => ?_, by rw [q]; exact mem_er hm⟩
          rw [u] at hm
          have := List.count_pos_iff.mpr hm
          omega
        · rw [lupd_ne _ _ q] at hm
          exact ⟨fun u => q (huni t ht (u ▸ hm)), hm⟩
      refine ⟨fun t ht => ?_, fun t j ht hj => ?_, fun t y ht hm => ?_, fun k hk => ?_, ?_, fun j hj => ?_, fun y hy => ?_, ?_⟩
      · rw [o30 _ _ _ _ _ (by decide) (by decide) (by decide), t3]
        show _ = nI (lupd (xQ X) s ((xQ X s).eraseIdx i) t).length
        unfold upd
        by_cases q : t = s
        · rw [if_pos q, q, lupd_at, len_er hi]
        · rw [if_neg q, lupd_ne _ _ q, m1 32 (by decide)]
          exact c1 t ht
      · rw [o30 _ _ _ _ _ (by decide) (by decide) (by decide)]
        show _ = nI ((lupd (xQ X) s ((xQ X s).eraseIdx i) t).getD j 0)
        have hj' : j < (lupd (xQ X) s ((xQ X s).eraseIdx i) t).length := hj
        by_cases q : t = s
        · rw [q, lupd_at] at hj' ⊢
          rw [len_er hi] at hj'
          rw [t4 j hj', getD_er]
        · rw [lupd_ne _ _ q] at hj' ⊢
          have := xlen hd hv ht
          rw [t5 _ (by omega), m1 31 (by decide)]
          exact c2 t j ht hj'
      · have hm' : y ∈ lupd (xQ X) s ((xQ X s).eraseIdx i) t := hm
        obtain ⟨g1, g2⟩ := hne t y ht hm'
        obtain ⟨g3, g4⟩ := c3 t y ht g2
        rw [o30 _ _ _ _ _ (by decide) (by decide) (by decide), o30 _ _ _ _ _ (by decide) (by decide) (by decide), t1 34 (by decide) (by decide), t1 33 (by decide) (by decide), m2, m1 33 (by decide)]
        refine ⟨?_, g4⟩
        show upd (M.1 34) x (nI (xR X x - 1)) y = nI (fupd (xR X) x 0 y)
        unfold upd
        rw [if_neg g1, fupd_ne _ _ g1]
        exact g3
      · rw [uI_0 _ _ _ _ (by decide), uI_0 _ _ _ _ (by decide), uI_a]
        show upd (M3.1 35) _ _ k = updp (xP X) (5 * xcl (qP d 0) x + s) k
        unfold updp upd
        by_cases q : k = 5 * xcl (qP d 0) x + s
        · rw [if_pos q, if_pos q, c4 _ (by omega)]
        · rw [if_neg q, if_neg q, h35]
          exact c4 k hk
      · rw [uI_a, upd_at]
        show _ = nI (xL X ++ [(x, s)]).length
        rw [List.length_append]
        rfl
      · rw [uI_0 _ _ _ _ (by decide), uI_a, uI_0 _ _ _ _ (by decide)]
        show upd (M3.1 36) (xL X).length (nI x) j = nI ((xL X ++ [(x, s)]).getD j (0, 0)).1
        have hj' : j < (xL X ++ [(x, s)]).length := hj
        rw [List.length_append] at hj'
        have hj2 : j < (xL X).length + 1 := hj'
        unfold upd
        by_cases q : j = (xL X).length
        · rw [if_pos q, q, getD_ap2]
        · rw [if_neg q, getD_ap1 _ _ (by omega), h36]
          exact c6 j (by omega)
      · rw [o30 _ _ _ _ _ (by decide) (by decide) (by decide), t1 33 (by decide) (by decide), m1 33 (by decide)]
        have hy' : y ∈ xL X ++ [(x, s)] := hy
        rcases List.mem_append.mp hy' with q | q
        · exact c7 y q
        · rw [List.mem_singleton] at q
          rw [q]
          exact hplace
      · rw [uI_a]
        unfold upd
        rw [if_neg (by decide), uI_0 _ _ _ _ (by decide), uI_0 _ _ _ _ (by decide), h30]
        exact c8
    · refine ⟨fun b hb => ?_, fun k hk => ?_, by show M3.2 = M.2; rw [t2, m3]⟩
      · simp only [List.mem_cons, List.not_mem_nil, or_false, not_or] at hb
        rw [uI_0 _ _ _ _ (by omega), uI_0 _ _ _ _ (by omega), uI_0 _ _ _ _ (by omega), t1 b (by omega) (by omega), m1 b (by omega)]
      · rw [uI_a]
        unfold upd
        rw [if_neg hk, uI_0 _ _ _ _ (by decide), uI_0 _ _ _ _ (by decide), h30]
  · rw [if_neg z, if_neg (by rw [q0, nI_le_iff (by omega) (by omega)]; omega)]
    refine ⟨M2, rfl, ?_, ?_⟩
    · refine ⟨fun t ht => ?_, fun t j ht hj => ?_, fun t y ht hm => ?_, fun k hk => ?_, ?_, fun j hj => ?_, fun y hy => ?_, ?_⟩
      · rw [m1 32 (by decide)]; exact c1 t ht
      · rw [m1 31 (by decide)]; exact c2 t j ht hj
      · obtain ⟨g3, g4⟩ := c3 t y ht hm
        rw [m1 33 (by decide), m2]
        refine ⟨?_, g4⟩
        show upd (M.1 34) x (nI (xR X x - 1)) y = nI (fupd (xR X) x (xR X x - 1) y)
        unfold upd
        by_cases q : y = x
        · rw [if_pos q, q, fupd_at]
        · rw [if_neg q, fupd_ne _ _ q]
          exact g3
      · rw [m1 35 (by decide)]; exact c4 k hk
      · rw [m1 30 (by decide)]; exact c5
      · rw [m1 36 (by decide)]; exact c6 j hj
      · rw [m1 33 (by decide)]; exact c7 y hy
      · rw [m1 30 (by decide)]; exact c8
    · refine ⟨fun b hb => ?_, fun k _ => by rw [m1 30 (by decide)], m3⟩
      simp only [List.mem_cons, List.not_mem_nil, or_false, not_or] at hb
      exact m1 b (by omega)
