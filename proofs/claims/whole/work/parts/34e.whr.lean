/-! WHERE ONE STANDS -/
theorem lfirst {x : Nat} : ∀ (l : List Nat), x ∈ l → ∃ i, i < l.length ∧ l.getD i 0 = x ∧ ∀ j, j < i → l.getD j 0 ≠ x
  | [], h => by cases h
  | y :: l, h => by
    by_cases q : y = x
    · exact ⟨0, Nat.succ_pos _, q, fun j hj => absurd hj (Nat.not_lt_zero j)⟩
    · have h' : x ∈ l := by
        rcases List.mem_cons.mp h with e | e
        · exact absurd e.symm q
        · exact e
      obtain ⟨i, hi, e, hn⟩ := lfirst l h'
      refine ⟨i + 1, Nat.succ_lt_succ hi, e, fun j hj => ?_⟩
      cases j with
      | zero => exact q
      | succ j => exact hn j (by omega)
theorem lgne {x i : Nat} {l : List Nat} (hi : i < l.length) (h : x ∉ l) : l.getD i 0 ≠ x := fun e => h (by rw [← e]; exact getD_mem hi)
theorem wh_skip {M : pm_M} {X : qXs} (hX : xM0 M X) {u x : Nat} (hu : u < 5) (hlen : (xQ X u).length ≤ 8) (hx8 : ∀ y, y ∈ xQ X u → y < 8) (hx : x < 8) (hno : x ∉ xQ X u) (w : Int32) (g3 : Int32 → pm_M → Option (Int32 × pm_M)) : (fun (a1 a2 x5 : Int32) => pm_loop (fun _ _ => none) (fun (g10 : Int32 → pm_M → Option (Int32 × pm_M)) x12 M11 => if pm_in x5 5 then (if (M11.1 66 x5.toNatClampNeg) ≤ x12 then (pm_lt ((x5 + (1 : Int32))) fun x13 => g3 x13 M11) else (if pm_in (((8 : Int32) * x5) + x12) 40 then (if ¬ (M11.1 67 (((8 : Int32) * x5) + x12).toNatClampNeg) = a1 then (pm_lt ((x12 + (1 : Int32))) fun x14 => g10 x14 M11) else (if ¬ a2 = 0 then (if ¬ a2 = (1 : Int32) then (some (x12, M11)) else (if pm_in a1 8 then (some ((M11.1 68 a1.toNatClampNeg), M11)) else none)) else (some (x5, M11)))) else none)) else none) 1000000 (0 : Int32) M) (nI x) w (nI u) = g3 (nI (u + 1)) M := by
  dsimp only
  have hin5 : pm_in (nI u) 5 := by rw [nI_in_iff (by omega)]; exact hu
  have hck : (nI u).toNatClampNeg = u := nI_cl u (by omega)
  refine q_for (fun i (g : Int32 → pm_M → Option (Int32 × pm_M)) => g (nI i) M) (N := (xQ X u).length) ?_ ?_ (by omega)
  · intro i hi g
    simp only [hck]
    rw [if_pos hin5, hX.1 u hu, if_neg (by rw [nI_le_iff (by omega) (by omega)]; omega), q8s', if_pos (by rw [nI_in_iff (by omega)]; omega), nI_cl _ (by omega), hX.2.1 u i hu hi, if_pos, q_lt, ← nI_succ]
    intro q
    exact lgne hi hno ((nI_inj (by have := hx8 _ (getD_mem hi); omega) (by omega)).mp q)
  · intro g
    simp only [hck]
    rw [if_pos hin5, hX.1 u hu, if_pos (by rw [nI_le_iff (by omega) (by omega)]; omega), q_lt, ← nI_succ]
theorem wh_hit {M : pm_M} {X : qXs} (hX : xM0 M X) {u x i0 : Nat} (hu : u < 5) (hlen : (xQ X u).length ≤ 8) (hx8 : ∀ y, y ∈ xQ X u → y < 8) (hx : x < 8) (hi0 : i0 < (xQ X u).length) (he : (xQ X u).getD i0 0 = x) (hn : ∀ j, j < i0 → (xQ X u).getD j 0 ≠ x) (w : Int32) (g3 : Int32 → pm_M → Option (Int32 × pm_M)) : (fun (a1 a2 x5 : Int32) => pm_loop (fun _ _ => none) (fun (g10 : Int32 → pm_M → Option (Int32 × pm_M)) x12 M11 => if pm_in x5 5 then (if (M11.1 66 x5.toNatClampNeg) ≤ x12 then (pm_lt ((x5 + (1 : Int32))) fun x13 => g3 x13 M11) else (if pm_in (((8 : Int32) * x5) + x12) 40 then (if ¬ (M11.1 67 (((8 : Int32) * x5) + x12).toNatClampNeg) = a1 then (pm_lt ((x12 + (1 : Int32))) fun x14 => g10 x14 M11) else (if ¬ a2 = 0 then (if ¬ a2 = (1 : Int32) then (some (x12, M11)) else (if pm_in a1 8 then (some ((M11.1 68 a1.toNatClampNeg), M11)) else none)) else (some (x5, M11)))) else none)) else none) 1000000 (0 : Int32) M) (nI x) w (nI u) = some (if w = 0 then nI u else if w = 1 then M.1 68 x else nI i0, M) := by
  dsimp only
  have hin5 : pm_in (nI u) 5 := by rw [nI_in_iff (by omega)]; exact hu
  have hin8 : pm_in (nI x) 8 := by rw [nI_in_iff (by omega)]; exact hx
  have hck : (nI u).toNatClampNeg = u := nI_cl u (by omega)
  refine q_for (fun i (g : Int32 → pm_M → Option (Int32 × pm_M)) => g (nI i) M) (N := i0) ?_ ?_ (by omega)
  · intro i hi g
    simp only [hck]
    rw [if_pos hin5, hX.1 u hu, if_neg (by rw [nI_le_iff (by omega) (by omega)]; omega), q8s', if_pos (by rw [nI_in_iff (by omega)]; omega), nI_cl _ (by omega), hX.2.1 u i hu (by omega), if_pos, q_lt, ← nI_succ]
    intro q
    exact hn i hi ((nI_inj (by have := hx8 _ (getD_mem (show i < (xQ X u).length by omega)); omega) (by omega)).mp q)
  · intro g
    simp only [hck]
    rw [if_pos hin5, hX.1 u hu, if_neg (by rw [nI_le_iff (by omega) (by omega)]; omega), q8s', if_pos (by rw [nI_in_iff (by omega)]; omega), nI_cl _ (by omega), hX.2.1 u i0 hu hi0, he, if_neg (fun q => q rfl)]
    by_cases w0 : w = 0
    · rw [if_pos w0, if_neg (fun q => q w0)]
    rw [if_pos w0, if_neg w0]
    by_cases w1 : w = 1
    · rw [if_pos w1, if_neg (fun q => q w1), if_pos hin8, nI_cl x (by omega)]
    · rw [if_pos w1, if_neg w1]
theorem wh_ahead {n0 : Nat} {M : pm_M} {X : qXs} (hX : xC0 n0 M X) {u x i0 : Nat} (hu : u < 5) (hlen : (xQ X u).length ≤ 8) (hx8 : ∀ y, y ∈ xQ X u → y < 8) (hx : x < 8) (hi0 : i0 < (xQ X u).length) (he : (xQ X u).getD i0 0 = x) (hn : ∀ j, j < i0 → (xQ X u).getD j 0 ≠ x) : sTruth_aheadOf (nI x) M = some (nI i0, M) := by
  have hin5 : pm_in (nI u) 5 := by rw [nI_in_iff (by omega)]; exact hu
  have hin8 : pm_in (nI x) 8 := by rw [nI_in_iff (by omega)]; exact hx
  have hck : (nI u).toNatClampNeg = u := nI_cl u (by omega)
  unfold sTruth_aheadOf
  rw [if_pos hin8, nI_cl x (by omega), (hX.2.2.1 u x hu (by rw [← he]; exact getD_mem hi0)).2, q_lt]
  refine q_for (fun i (g : Int32 → pm_M → Option (Int32 × pm_M)) => g (nI i) M) (N := i0) ?_ ?_ (by omega)
  · intro i hi g
    simp only [hck]
    rw [if_pos hin5, hX.1 u hu, if_neg (by rw [nI_le_iff (by omega) (by omega)]; omega), q8s, if_pos (by rw [nI_in_iff (by omega)]; omega), nI_cl _ (by omega), hX.2.1 u i hu (by omega), if_pos, q_lt, ← nI_succ]
    intro q
    exact hn i hi ((nI_inj (by have := hx8 _ (getD_mem (show i < (xQ X u).length by omega)); omega) (by omega)).mp q)
  · intro g
    simp only [hck]
    rw [if_pos hin5, hX.1 u hu, if_neg (by rw [nI_le_iff (by omega) (by omega)]; omega), q8s, if_pos (by rw [nI_in_iff (by omega)]; omega), nI_cl _ (by omega), hX.2.1 u i0 hu hi0, he, if_neg (fun q => q rfl)]
theorem xsome {d : qD} {X : qXs} (h : xV d X) (hL : xL X = []) {x : Nat} (hx : x < qP d 0 + qP d 1) : ∃ s, s < 5 ∧ x ∈ xQ X s := by
  have h3 := h.2.2.1 x
  rw [if_pos hx, hL] at h3
  apply Classical.byContradiction
  intro q
  have z : ∀ s, s < 5 → (xQ X s).count x = 0 := fun s hs => List.count_eq_zero.mpr (fun m => q ⟨s, hs, m⟩)
  have e : qsm (fun s => (xQ X s).count x) 5 = 0 := by
    show 0 + (xQ X 0).count x + (xQ X 1).count x + (xQ X 2).count x + (xQ X 3).count x + (xQ X 4).count x = 0
    rw [z 0 (by omega), z 1 (by omega), z 2 (by omega), z 3 (by omega), z 4 (by omega)]
  rw [e] at h3
  exact absurd h3 (show ¬ 0 + 0 = 1 by omega)
theorem tr_in {t : Nat} {M : pm_M} {d : qD} (hd : qOK d) (hR : qR M d) (h : qTr t M d) : ∃ n, n ≤ 8 ∧ M.1 30 1 = nI n ∧ sR_inTruth M = some (nI n, M) := by
  have h8 := hd.2.2.2.2.2.2.1
  unfold sR_inTruth
  rcases h.2 with ⟨-, a, -, b, -⟩ | ⟨-, b, -, a, -⟩
  · refine ⟨0, by omega, a, ?_⟩
    rw [b, if_pos rfl]
    rfl
  · refine ⟨_, h8, a, ?_⟩
    rw [b, if_neg (by decide), hR.2.2.2.2.1, hR.2.2.2.2.1, qI_add]
theorem I_where {t : Nat} {M : pm_M} (h : qInv t M) (a w : Int32) : qBo t (sC_where a w) (sR_where a w) M := by
  obtain ⟨d, h1, h2, h3, h4, h5, h6, h7⟩ := id h
  obtain ⟨hd, hC, hR, hT, hSt, hF⟩ := id h1
  have hS := hd.1
  refine qBo_pur h ?_
  by_cases i2 : pm_in w 3
  case neg =>
    refine ⟨-2, M, M, ?_, ?_, qScr_rf⟩
    · unfold sC_where
      by_cases z : w < 0
      · rw [if_pos z]
      · rw [if_neg z, if_neg (Int32.not_le.mpr (show (2 : Int32) < w from pm_hi (n := 2) (by omega) i2 z))]
    · unfold sR_where
      rw [R_in02, q_bd, b2i_f i2, if_neg (fun q => q rfl)]
  obtain ⟨k, hk, -, rfl⟩ := pm_kx i2
  have ew : ¬ nI k < 0 := nI_nneg (by omega)
  have ew2 : nI k ≤ 2 := by rw [q2, nI_le_iff (by omega) (by omega)]; omega
  obtain ⟨n, hn, n1, n2⟩ := tr_in hd hR h5
  by_cases i1 : pm_in a n
  case neg =>
    refine ⟨-12, M, M, ?_, ?_, qScr_rf⟩
    · unfold sC_where
      rw [if_neg ew, if_pos ew2]
      by_cases z : a < 0
      · rw [if_pos z]
      · rw [if_neg z, n1, if_neg]
        intro q
        obtain ⟨j, hj, rfl⟩ := nI_ex z
        rw [nI_lt_iff hj (by omega)] at q
        exact i1 ((nI_in_iff hj).mpr q)
    · unfold sR_where
      rw [R_in02, q_bd, b2i_t i2, if_pos (by decide)]
      refine q_for (fun i (g : Int32 → pm_M → Option (Int32 × pm_M)) => g (nI i) M) (N := 0) (fun i hi => absurd hi (Nat.not_lt_zero i)) ?_ (by omega)
      intro g
      rw [hR.1]
      by_cases z : nI (qS d) ≤ nI 0
      · rw [if_pos z]
      · rw [if_neg z, n2, q_bd, R_inm (by omega), q_bd, b2i_f i1, if_pos rfl]
  obtain ⟨x, hx, -, rfl⟩ := pm_kx i1
  rcases h5.2 with ⟨-, a1, -⟩ | ⟨-, -, hs, a1, -, X, q1, q2', q4, q5, -⟩
  · rw [n1] at a1
    have : n = 0 := (nI_inj (by omega) (by omega)).mp a1
    omega
  have en : n = qP d 0 + qP d 1 := by
    have h8 := hd.2.2.2.2.2.2.1
    rw [n1] at a1
    exact (nI_inj (by omega) (by omega)).mp a1
  obtain ⟨s, hs5, hm⟩ := xsome q4 q5 (show x < qP d 0 + qP d 1 by omega)
  obtain ⟨i0, hi0, he, hno⟩ := lfirst _ hm
  have hsS : s < qS d := qin_S hd (xcl_2 _ _) (q4.1 s x hs5 hm).2.1
  have hl : ∀ u, u < 5 → (xQ X u).length ≤ 8 := fun u hu => by have := xlen hd q4 hu; omega
  have hx8 : ∀ u, u < 5 → ∀ y, y ∈ xQ X u → y < 8 := fun u hu y hy => (q4.1 u y hu hy).1
  have hin8 : pm_in (nI x) 8 := by rw [nI_in_iff (by omega)]; omega
  refine ⟨if nI k = 0 then nI s else if nI k = 1 then M.1 68 x else nI i0, M, M, ?_, ?_, qScr_rf⟩
  · unfold sC_where
    rw [if_neg ew, if_pos ew2, if_neg (nI_nneg (by omega)), n1, if_pos (by rw [nI_lt_iff (by omega) (by omega)]; exact hx)]
    by_cases w0 : nI k = 0
    · rw [if_pos w0, if_neg (fun q => q w0), if_pos hin8, nI_cl x (by omega), (q1.2.2.1 s x hs5 hm).2]
    rw [if_pos w0, if_neg w0]
    by_cases w1 : nI k = 1
    · rw [if_pos w1, if_neg (fun q => q w1), if_pos hin8, nI_cl x (by omega), (q1.2.2.1 s x hs5 hm).1, q2'.2.2.1 s x hs5 hm]
    · rw [if_pos w1, if_neg w1, wh_ahead q1 hs5 (hl s hs5) (hx8 s hs5) (by omega) hi0 he hno, q_bd]
  · unfold sR_where
    rw [R_in02, q_bd, b2i_t i2, if_pos (by decide)]
    refine q_for (fun i (g : Int32 → pm_M → Option (Int32 × pm_M)) => g (nI i) M) (N := s) ?_ ?_ (by omega)
    · intro i hi g
      rw [hR.1, if_neg (by rw [nI_le_iff (by omega) (by omega)]; omega), n2, q_bd, R_inm (by omega), q_bd, b2i_t i1, if_neg (by decide)]
      exact wh_skip q2' (show i < 5 by omega) (hl i (by omega)) (hx8 i (by omega)) (by omega) (fun hm' => absurd (xuniq q4 (show i < 5 by omega) hs5 hm' hm) (by omega)) (nI k) g
    · intro g
      rw [hR.1, if_neg (by rw [nI_le_iff (by omega) (by omega)]; omega), n2, q_bd, R_inm (by omega), q_bd, b2i_t i1, if_neg (by decide)]
      exact wh_hit q2' hs5 (hl s hs5) (hx8 s hs5) (by omega) hi0 he hno (nI k) g
