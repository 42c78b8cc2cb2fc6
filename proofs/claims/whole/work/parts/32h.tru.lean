/-! IN TRUTH: a turn, each side -/
/-- whoever stands or leaves: his weights are above 0 -/
def xW (d : qD) : Prop := ∀ x s, x < qP d 0 + qP d 1 → qin d (xcl (qP d 0) x) s → 0 < qwt d (xcl (qP d 0) x) s
theorem xW_snd {d : qD} (hd : qOK d) (h : qsnd d) : xW d := by
  intro x s hx hi
  have hcl := xcl_2 (qP d 0) x
  have hp : qP d (xcl (qP d 0) x) ≠ 0 := by
    unfold xcl
    by_cases q : qP d 0 ≤ x
    · rw [if_pos q]; omega
    · rw [if_neg q]; omega
  rcases qsnd_c h hcl with q | q
  · exact absurd q hp
  · exact qwt_in hd hcl q.1 hi
theorem xall_V {d : qD} {X : qXs} (h : xV d X) : ∀ s, s ≤ 5 → xV d (xall d s X)
  | 0, _ => h
  | s + 1, hs => xsv_V (xall_V h s (by omega)) (by omega) _
theorem xL_lt {d : qD} {X : qXs} (h : xV d X) {y : Nat × Nat} (hy : y ∈ xL X) : y.1 < qP d 0 + qP d 1 := by
  have h3 := h.2.2.1 y.1
  have c2 : 0 < ((xL X).map Prod.fst).count y.1 := List.count_pos_iff.mpr (List.mem_map_of_mem hy)
  apply Classical.byContradiction
  intro q
  rw [if_neg q] at h3
  omega
theorem xC0_of {n0 : Nat} {M M' : pm_M} {X : qXs} (h : xC0 n0 M X) (e : ∀ b, b ∈ [31, 32, 33, 34, 35] → M'.1 b = M.1 b) (e2 : M'.1 30 2 = M.1 30 2) : xC0 n0 M' X := by
  obtain ⟨c1, c2, c3, c4, c5⟩ := h
  refine ⟨?_, ?_, ?_, ?_, by rw [e2]; exact c5⟩
  · rw [e 32 (by decide)]; exact c1
  · rw [e 31 (by decide)]; exact c2
  · rw [e 33 (by decide), e 34 (by decide)]; exact c3
  · rw [e 35 (by decide)]; exact c4
theorem xM0_of {M M' : pm_M} {X : qXs} (h : xM0 M X) (e : ∀ b, b ∈ [66, 67, 68, 69] → M'.1 b = M.1 b) : xM0 M' X := by
  obtain ⟨c1, c2, c3, c4⟩ := h
  refine ⟨?_, ?_, ?_, ?_⟩
  · rw [e 66 (by decide)]; exact c1
  · rw [e 67 (by decide)]; exact c2
  · rw [e 68 (by decide)]; exact c3
  · rw [e 69 (by decide)]; exact c4
theorem drop_cons {l : List (Nat × Nat)} {j : Nat} (h : j < l.length) : l.drop j = l.getD j (0, 0) :: l.drop (j + 1) := by
  rw [List.drop_eq_getElem_cons h, List.getD_eq_getElem?_getD, List.getElem?_eq_getElem h]
  rfl
def xtn (d : qD) (sd : Int32) (X : qXs) : Nat × Int32 × qXs := ((xL (xall d (qS d) X)).length, xarr d (xL (xall d (qS d) X)) sd (xall d (qS d) X))
theorem xarr_V {d : qD} (hd : qOK d) : ∀ (l : List (Nat × Nat)) (sd : Int32) (X : qXs), xL X = l → xV d X → xV d (xarr d l sd X).2 ∧ xL (xarr d l sd X).2 = []
  | [], sd, X, hL, h => ⟨h, hL⟩
  | y :: l, sd, X, hL, h => by
    have hy := h.2.1 y (by rw [hL]; exact List.mem_cons_self)
    have hcl := xcl_2 (qP d 0) y.1
    have hs5 : y.2 < 5 := by have := qin_S hd hcl hy.2; have := hd.1; omega
    have hin := qgl_in hd (qdr sd (qwt d (xcl (qP d 0) y.1) y.2)) hcl hs5 hy.2
    exact xarr_V hd l (qsd sd) _ rfl (xadd_V hd hL h hin)
theorem C_turnOnce {d : qD} {M : pm_M} (hd : qOK d) (hC : qC M d) (hW : xW d) {X : qXs} (h : xC0 (qP d 0) M X) (hv : xV d X) (hL : xL X = []) : ∃ M', sTruth_turnOnce M = some (nI (xtn d (M.1 30 4) X).1, M') ∧ xC0 (qP d 0) M' (xtn d (M.1 30 4) X).2.2 ∧ M'.1 30 4 = (xtn d (M.1 30 4) X).2.1 ∧ (∀ b, b ∉ [30, 31, 32, 33, 34, 35, 36] → M'.1 b = M.1 b) ∧ (∀ k, k ≠ 3 → k ≠ 4 → k ≠ 5 → M'.1 30 k = M.1 30 k) ∧ M'.1 30 3 = M.1 30 3 + 1 ∧ M'.2 = M.2 := by
  have hS := hd.1
  obtain ⟨c1, c2, c3, c4, c5⟩ := h
  unfold sTruth_turnOnce
  rw [q_lt]
  have hx1 : xC (qP d 0) (pm_sI M 30 5 0) X := by
    refine ⟨fun s hs => by rw [sI_1, if_neg (by decide)]; exact c1 s hs, fun s i hs hi => by rw [sI_1, if_neg (by decide)]; exact c2 s i hs hi, fun s x hs hx => by rw [sI_1, if_neg (by decide), sI_1, if_neg (by decide)]; exact c3 s x hs hx, fun k hk => by rw [sI_1, if_neg (by decide)]; exact c4 k hk, by rw [sI_1, if_pos rfl, upd_at, hL]; rfl, fun i hi => by rw [hL] at hi; exact absurd hi (Nat.not_lt_zero i), fun y hy => by rw [hL] at hy; exact absurd hy List.not_mem_nil, by rw [sI_1, if_pos rfl]; unfold upd; rw [if_neg (by decide)]; exact c5⟩
  have hf1 : xfC M (pm_sI M 30 5 0) := ⟨fun b hb => by
    simp only [List.mem_cons, List.not_mem_nil, or_false, not_or] at hb
    rw [sI_1, if_neg (by omega)], fun k hk => by rw [sI_1, if_pos rfl]; unfold upd; rw [if_neg hk], rfl⟩
  refine q_fz (fun o => ∃ M', o = some (nI (xtn d (M.1 30 4) X).1, M') ∧ xC0 (qP d 0) M' (xtn d (M.1 30 4) X).2.2 ∧ M'.1 30 4 = (xtn d (M.1 30 4) X).2.1 ∧ (∀ b, b ∉ [30, 31, 32, 33, 34, 35, 36] → M'.1 b = M.1 b) ∧ (∀ k, k ≠ 3 → k ≠ 4 → k ≠ 5 → M'.1 30 k = M.1 30 k) ∧ M'.1 30 3 = M.1 30 3 + 1 ∧ M'.2 = M.2) (fun s N (g : Int32 → pm_M → Option (Int32 × pm_M)) => g (nI s) N) (fun s N => xC (qP d 0) N (xall d s X) ∧ xfC M N) (qS d) ?_ ?_ (n := 1000000) (by omega) (a := pm_sI M 30 5 0) ⟨hx1, hf1⟩
  · rintro s N hs ⟨n1, n2⟩ g
    have hCN : qC N d := qC_of hC (fun b hb => n2.1 b (by simp only [List.mem_cons, List.not_mem_nil, or_false, not_or]; omega))
    obtain ⟨N', e, e1, e2⟩ := Truth_serve hd n1 (xall_V hv s (by omega)) (show s < 5 by omega) (hd.2.1 s)
    rw [hCN.1, if_neg (by rw [nI_le_iff (by omega) (by omega)]; omega), if_pos (by rw [nI_in_iff (by omega)]; omega), nI_cl s (by omega), hCN.2.1, e, q_bv, q_lt, ← nI_succ]
    exact ⟨N', ⟨e1, xfC_tr n2 e2⟩, rfl⟩
  · rintro N ⟨n1, n2⟩ g
    have hCN : qC N d := qC_of hC (fun b hb => n2.1 b (by simp only [List.mem_cons, List.not_mem_nil, or_false, not_or]; omega))
    have hVY := xall_V hv (qS d) hS
    rw [hCN.1, if_pos (Int32.le_refl _)]
    unfold xtn
    generalize xall d (qS d) X = Y at n1 hVY
    obtain ⟨y1, y2, y3, y4, y5, y6, y7, y8⟩ := n1
    generalize hLL : xL Y = L at *
    have hlen : L.length ≤ 8 := by have := xlen hd hVY (s := 0) (by omega); rw [hLL] at this; omega
    have h304 : N.1 30 4 = M.1 30 4 := n2.2.1 4 (by decide)
    rw [← h304]
    refine q_fz (fun o => ∃ M', o = some (nI L.length, M') ∧ xC0 (qP d 0) M' (xarr d L (N.1 30 4) Y).2 ∧ M'.1 30 4 = (xarr d L (N.1 30 4) Y).1 ∧ (∀ b, b ∉ [30, 31, 32, 33, 34, 35, 36] → M'.1 b = M.1 b) ∧ (∀ k, k ≠ 3 → k ≠ 4 → k ≠ 5 → M'.1 30 k = M.1 30 k) ∧ M'.1 30 3 = M.1 30 3 + 1 ∧ M'.2 = M.2) (fun j K (g : Int32 → pm_M → Option (Int32 × pm_M)) => g (nI j) K) (fun j K => ∃ Z, xC0 (qP d 0) K Z ∧ xV d Z ∧ xL Z = L.drop j ∧ (∀ y, y ∈ L.drop j → K.1 33 y.1 = nI y.2) ∧ xarr d (L.drop j) (K.1 30 4) Z = xarr d L (N.1 30 4) Y ∧ (∀ b, b ∉ [30, 31, 32, 33, 34] → K.1 b = N.1 b) ∧ (∀ k, k ≠ 4 → K.1 30 k = N.1 30 k) ∧ K.2 = N.2) L.length ?_ ?_ (n := 1000000) (by omega) (a := N) ⟨Y, ⟨y1, y2, y3, y4, y8⟩, hVY, by rw [hLL, List.drop_zero], fun y hy => y7 y (by rwa [List.drop_zero] at hy), by rw [List.drop_zero], fun _ _ => rfl, fun _ _ => rfl, rfl⟩
    · rintro j K hj ⟨Z, k1, k2, k3, k4, k5, k6, k7, k8⟩ g5
      rw [drop_cons hj] at k3 k4 k5
      have hyi : L.getD j (0, 0) ∈ xL Z := by rw [k3]; exact List.mem_cons_self
      have h36 : K.1 36 j = nI (L.getD j (0, 0)).1 := by rw [k6 36 (by decide)]; exact y6 j hj
      have hplace := k4 _ List.mem_cons_self
      generalize L.getD j (0, 0) = y at *
      have hy := k2.2.1 y hyi
      have hyl := xL_lt k2 hyi
      have hcl := xcl_2 (qP d 0) y.1
      have hsS := qin_S hd hcl hy.2
      have hCK : qC K d := qC_of hCN (fun b hb => k6 b (by simp only [List.mem_cons, List.not_mem_nil, or_false, not_or]; omega))
      have hj8 : pm_in (nI j) 8 := by rw [nI_in_iff (by omega)]; omega
      have hin := qgl_in hd (qdr (K.1 30 4) (qwt d (xcl (qP d 0) y.1) y.2)) hcl (by omega) hy.2
      have htS := qin_S hd hcl hin
      have h305 : K.1 30 5 = nI L.length := by rw [k7 5 (by decide)]; exact y5
      have hdg := Truth_drawGoal hd hCK (x := y.1) (s := y.2) k1.2.2.2.2 hy.1 (by omega) hplace (hW y.1 y.2 hyl hy.2)
      have hno : ∀ u, u < 5 → y.1 ∉ xQ Z u := fun u hu hm => xuniL k2 hu hm y hyi rfl
      have hll : ∀ u, u < 5 → (xQ Z u).length + 1 ≤ 8 := fun u hu => by
        have := xlen hd k2 hu
        rw [k3] at this
        have e : (y :: L.drop (j + 1)).length = (L.drop (j + 1)).length + 1 := rfl
        omega
      have hKs : xC0 (qP d 0) (pm_sI K 30 4 (qsd (K.1 30 4))) Z := xC0_of k1 (fun b hb => by
        rw [sI_1, if_neg]
        rintro rfl
        exact absurd hb (by decide)) (by rw [sI_1, if_pos rfl]; unfold upd; rw [if_neg (by decide)])
      have hCs : qC (pm_sI K 30 4 (qsd (K.1 30 4))) d := qC_of hCK (fun b hb => by rw [sI_1, if_neg (by omega)])
      obtain ⟨K', e, z1, z2, z3, z4⟩ := Truth_arrive hd hCs hKs (x := y.1) (t := xgo d (K.1 30 4) y) hy.1 htS hno (fun u hu => by have := hll u hu; omega) (by have := hll (xgo d (K.1 30 4) y) (by show qgl _ _ _ _ < 5; omega); omega)
      simp only [eq_true hj8, if_true, nI_cl j (show j < 2 ^ 31 by omega)]
      rw [h305, if_neg (by rw [nI_le_iff (by omega) (by omega)]; omega), h36, hdg, q_bd]
      rw [show qgl d (xcl (qP d 0) y.1) y.2 (qdr (K.1 30 4) (qwt d (xcl (qP d 0) y.1) y.2)) = xgo d (K.1 30 4) y from rfl, e, q_bv, q_lt, ← nI_succ]
      have k304 : K'.1 30 4 = qsd (K.1 30 4) := by rw [z2 30 (by decide), sI_1, if_pos rfl, upd_at]
      refine ⟨K', ⟨xadd d y.1 (xgo d (K.1 30 4) y) (xQ Z, xR Z, L.drop (j + 1), xP Z), z1, xadd_V hd k3 k2 hin, rfl, fun y' hy' => ?_, ?_, fun b hb => ?_, fun k hk => ?_, ?_⟩, rfl⟩
      · have hy2 : y' ∈ y :: L.drop (j + 1) := List.mem_cons_of_mem _ hy'
        have hne : y'.1 ≠ y.1 := by
          intro q
          have v3 := k2.2.2.1 y.1
          rw [k3, List.map_cons, List.count_cons, if_pos (beq_self_eq_true y.1)] at v3
          have : 0 < ((L.drop (j + 1)).map Prod.fst).count y.1 := List.count_pos_iff.mpr (by rw [← q]; exact List.mem_map_of_mem hy')
          have : (if y.1 < qP d 0 + qP d 1 then 1 else 0) ≤ 1 := by split <;> omega
          omega
        rw [z4 y'.1 hne, sI_1, if_neg (by decide)]
        exact k4 y' hy2
      · rw [k304, ← k5]
        rfl
      · simp only [List.mem_cons, List.not_mem_nil, or_false, not_or] at hb
        rw [z2 b (by simp only [List.mem_cons, List.not_mem_nil, or_false, not_or]; omega), sI_1, if_neg (by omega), k6 b (by simp only [List.mem_cons, List.not_mem_nil, or_false, not_or]; omega)]
      · rw [z2 30 (by decide), sI_1, if_pos rfl]
        unfold upd
        rw [if_neg hk]
        exact k7 k hk
      · rw [z3]
        exact k8
    · rintro K ⟨Z, k1, k2, k3, k4, k5, k6, k7, k8⟩ g5
      rw [List.drop_length] at k5 k3
      have h305 : K.1 30 5 = nI L.length := by rw [k7 5 (by decide)]; exact y5
      have k5' : (K.1 30 4, Z) = xarr d L (N.1 30 4) Y := k5
      rw [h305, if_pos (Int32.le_refl _), q_lt]
      have h305' : (pm_sI K 30 3 (K.1 30 3 + 1)).1 30 5 = nI L.length := by rw [sI_1, if_pos rfl]; unfold upd; rw [if_neg (by decide)]; exact h305
      rw [h305', ← k5']
      refine ⟨_, rfl, xC0_of k1 (fun b hb => ?_) (by rw [sI_1, if_pos rfl]; unfold upd; rw [if_neg (by decide)]), by rw [sI_1, if_pos rfl]; unfold upd; rw [if_neg (by decide)], fun b hb => ?_, fun k h3 h4 h5 => ?_, ?_, ?_⟩
      · rw [sI_1, if_neg]
        rintro rfl
        exact absurd hb (by decide)
      · simp only [List.mem_cons, List.not_mem_nil, or_false, not_or] at hb
        rw [sI_1, if_neg (by omega), k6 b (by simp only [List.mem_cons, List.not_mem_nil, or_false, not_or]; omega), n2.1 b (by simp only [List.mem_cons, List.not_mem_nil, or_false, not_or]; omega)]
      · rw [sI_1, if_pos rfl]
        unfold upd
        rw [if_neg h3, k7 k h4, n2.2.1 k h5]
      · rw [sI_1, if_pos rfl, upd_at, k7 3 (by decide), n2.2.1 3 (by decide)]
      · show K.2 = M.2
        rw [k8, n2.2.2]
