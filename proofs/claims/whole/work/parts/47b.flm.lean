/-! FILM, both sides -/
def fmR (d : qD) (N : pm_M) (j p : Nat) (a : pm_M) : Prop := a.1 = N.1 ∧ (∀ b, b ≠ 80 → a.2 b = N.2 b) ∧ ∀ k, a.2 80 k = if 40 * j ≤ k ∧ k < 40 * j + p then fvl d (k - 40 * j) else N.2 80 k
theorem R_fm_in {d : qD} {N a : pm_M} (hd : qOK d) (hR : qR N d) (h65 : ∀ c i, c < 2 → i < qS d → N.1 65 (5 * c + i) = nI ((qbe d).2 (5 * c + i))) {j c : Nat} (hj : j < 4) (hc : c < 2) (ha : fmR d N j (qS d * c) a) (g9 : Int32 → pm_M → Option (Int32 × pm_M)) : ∃ a', fmR d N j (qS d * (c + 1)) a' ∧ (fun (a1 x11 : Int32) (M10 : pm_M) => pm_loop (fun _ _ => none) (fun (g14 : Int32 → pm_M → Option (Int32 × pm_M)) x16 M15 => if (M15.1 49 1) ≤ x16 then (pm_lt ((x11 + (1 : Int32))) fun x17 => g9 x17 M15) else (if pm_in (((5 : Int32) * x11) + x16) 10 then (if pm_in ((((40 : Int32) * a1) + ((M15.1 49 1) * x11)) + x16) 160 then (pm_lt (pm_sL M15 80 ((((40 : Int32) * a1) + ((M15.1 49 1) * x11)) + x16).toNatClampNeg ((M15.1 65 (((5 : Int32) * x11) + x16).toNatClampNeg).toInt64)) fun M18 => pm_lt ((x16 + (1 : Int32))) fun x19 => g14 x19 M18) else none) else none)) 1000000 (0 : Int32) M10) (nI j) (nI c) a = g9 (nI (c + 1)) a' := by
  have hS := hd.1
  have hsc : qS d * c ≤ 5 * 1 := Nat.mul_le_mul hS (by omega)
  dsimp only
  refine q_fz (fun r => ∃ a', fmR d N j (qS d * (c + 1)) a' ∧ r = g9 (nI (c + 1)) a') (fun s a (g : Int32 → pm_M → Option (Int32 × pm_M)) => g (nI s) a) (fun s a => fmR d N j (qS d * c + s) a) (qS d) ?_ ?_ (n := 1000000) (a := a) (by omega) ha
  · rintro s a hs ⟨a1, a2, a3⟩ g
    refine ⟨pm_sL a 80 (40 * j + (qS d * c + s)) (fvl d (qS d * c + s)), ⟨a1, fun b hb => by rw [sL_2, if_neg hb, a2 b hb], fun k => ?_⟩, ?_⟩
    · rw [sL_2, if_pos rfl]
      unfold vp_updL
      rw [a3 k]
      by_cases z : k = 40 * j + (qS d * c + s)
      · rw [if_pos z, if_pos (by omega), show k - 40 * j = qS d * c + s by omega]
      · rw [if_neg z]
        by_cases z2 : 40 * j ≤ k ∧ k < 40 * j + (qS d * c)
        · rw [if_pos (by omega), if_pos (by omega)]
        · by_cases z3 : 40 * j ≤ k ∧ k < 40 * j + (qS d * c + s)
          · rw [if_pos z3, if_pos (by omega)]
          · rw [if_neg z3, if_neg (by omega)]
    · rw [a1, hR.1, if_neg (by rw [nI_le_iff (by omega) (by omega)]; omega), qcs, if_pos (by rw [nI_in_iff (by omega)]; omega), nI_mul, q40, qI_add, Nat.add_assoc, if_pos (by rw [nI_in_iff (by omega)]; omega), q_lt, q_lt, ← nI_succ, nI_cl _ (by omega), nI_cl _ (by omega), h65 c s hc hs, fvl_at d c hs]
  · rintro a ha g
    refine ⟨a, by rw [Nat.mul_succ]; exact ha, ?_⟩
    rw [ha.1, hR.1, if_pos (Int32.le_refl _), q_lt, ← nI_succ]
theorem R_fm_out {d : qD} {N : pm_M} (hd : qOK d) (hR : qR N d) (h65 : ∀ c i, c < 2 → i < qS d → N.1 65 (5 * c + i) = nI ((qbe d).2 (5 * c + i))) {j : Nat} (hj : j < 4) : ∃ a, fmR d N j (qS d * 2) a ∧ (fun (a1 : Int32) (M7 : pm_M) => pm_loop (fun _ _ => none) (fun (g9 : Int32 → pm_M → Option (Int32 × pm_M)) x11 M10 => if (2 : Int32) ≤ x11 then (if pm_in a1 4 then (pm_lt (pm_sI M10 78 a1.toNatClampNeg (1 : Int32)) fun M12 => if pm_in a1 4 then (pm_lt (pm_sI M12 79 a1.toNatClampNeg (((2 : Int32) * (M12.1 49 1)))) fun M13 => some (((2 : Int32) * (M13.1 49 1)), M13)) else none) else none) else (pm_loop (fun _ _ => none) (fun (g14 : Int32 → pm_M → Option (Int32 × pm_M)) x16 M15 => if (M15.1 49 1) ≤ x16 then (pm_lt ((x11 + (1 : Int32))) fun x17 => g9 x17 M15) else (if pm_in (((5 : Int32) * x11) + x16) 10 then (if pm_in ((((40 : Int32) * a1) + ((M15.1 49 1) * x11)) + x16) 160 then (pm_lt (pm_sL M15 80 ((((40 : Int32) * a1) + ((M15.1 49 1) * x11)) + x16).toNatClampNeg ((M15.1 65 (((5 : Int32) * x11) + x16).toNatClampNeg).toInt64)) fun M18 => pm_lt ((x16 + (1 : Int32))) fun x19 => g14 x19 M18) else none) else none)) 1000000 (0 : Int32) M10)) 1000000 (0 : Int32) M7) (nI j) N = some (nI (2 * qS d), pm_sI (pm_sI a 78 j 1) 79 j (nI (2 * qS d))) := by
  have hS := hd.1
  have hin : pm_in (nI j) 4 := by rw [nI_in_iff (by omega)]; exact hj
  have hck : (nI j).toNatClampNeg = j := nI_cl j (by omega)
  dsimp only
  refine q_fz (fun r => ∃ a, fmR d N j (qS d * 2) a ∧ r = some (nI (2 * qS d), pm_sI (pm_sI a 78 j 1) 79 j (nI (2 * qS d)))) (fun c a (g : Int32 → pm_M → Option (Int32 × pm_M)) => g (nI c) a) (fun c a => fmR d N j (qS d * c) a) 2 ?_ ?_ (n := 1000000) (a := N) (by omega) ⟨rfl, fun _ _ => rfl, fun k => by rw [if_neg (by omega)]⟩
  · intro c a hc ha g
    obtain ⟨a', h1, h2⟩ := R_fm_in hd hR h65 hj hc ha g
    refine ⟨a', h1, ?_⟩
    rw [if_neg (by rw [q2, nI_le_iff (by omega) (by omega)]; omega)]
    exact h2
  · intro a ha g
    refine ⟨a, ha, ?_⟩
    have e1 : (pm_sI a 78 j 1).1 49 1 = nI (qS d) := by rw [sI_1, if_neg (by decide), ha.1, hR.1]
    have e2 : (pm_sI (pm_sI a 78 j 1) 79 j (nI (2 * qS d))).1 49 1 = nI (qS d) := by rw [sI_1, if_neg (by decide), e1]
    rw [if_pos (by decide), if_pos hin, q_lt, if_pos hin, q_lt, hck, e1, show (2 : Int32) * nI (qS d) = nI (2 * qS d) by rw [q2, nI_mul], e2, show (2 : Int32) * nI (qS d) = nI (2 * qS d) by rw [q2, nI_mul]]
theorem I_film {t : Nat} {M : pm_M} (h : qInv t M) (a : Int32) : qBo t (sC_film a) (sR_film a) M := by
  obtain ⟨d, h1, h2, h3, h4, h5, h6, h7⟩ := id h
  obtain ⟨hd, hC, hR, hT, hSt, hF⟩ := id h1
  have hS := hd.1
  by_cases i1 : pm_in a 4
  case neg =>
    refine ⟨-2, M, M, ?_, ?_, h⟩
    · unfold sC_film
      rw [C_isSheet, q_bd, b2i_f i1, if_neg (fun q => q rfl)]
    · unfold sR_film
      rw [R_isSheet, q_bd, b2i_f i1, if_neg (fun q => q rfl)]
  by_cases hs : qsnd d
  case neg =>
    obtain ⟨N, e, f, -, -, -⟩ := R_snd2 h1
    refine ⟨-3, M, N, ?_, ?_, qInv_scr h (qScr_L f (by decide))⟩
    · unfold sC_film
      rw [C_isSheet, q_bd, b2i_t i1, if_pos (by decide), Tours_isSound hT, q_bd, q2i_f hs, if_neg (fun q => q rfl)]
    · unfold sR_film
      rw [R_isSheet, q_bd, b2i_t i1, if_pos (by decide), e, q_bd, q2i_f hs, if_neg (fun q => q rfl)]
  obtain ⟨j, hj, -, rfl⟩ := pm_kx i1
  obtain ⟨M1, e1, c1, c2, c3, c4, c5, c6, c7⟩ := C_film_s hd hs hC hSt h2 (i := 40 + 2 * j) (l := 41 + 2 * j) ⟨by omega, by omega⟩ ⟨by omega, by omega⟩
  have hN1 : qNet M1 d := ⟨hd, qC_of hC (fun b hb => c1 b (by omega) (by omega) (by omega) (by omega)), qR_of hR (by rw [c1 49 (by omega) (by omega) (by omega) (by omega)]) (fun b b1 b2 => c1 b (by omega) (by omega) (by omega) (by omega)), qTo_of hT (fun b b1 b2 => c1 b (by omega) (by omega) (by omega) (by omega)) (fun b b1 b2 => c6 b (by omega) (by omega)), qSt_of hSt (fun k hk => c2 k (by omega)) (c1 24 (by omega) (by omega) (by omega) (by omega)) (c6 25 (by omega) (by omega)), fun k hk => by rw [c6 61 (by omega) (by omega)]; exact hF k hk⟩
  obtain ⟨N, e, f, r1, r2, r3⟩ := R_snd2 hN1
  obtain ⟨N2, e2, g1, g2, g3⟩ := R_likeliest hd hs r1 r2 (r3 hs).1
  obtain ⟨N3, ⟨z1, z2, z3⟩, e3⟩ := R_zero hj (fun M7 => (fun (a1 : Int32) (M7 : pm_M) => pm_loop (fun _ _ => none) (fun (g9 : Int32 → pm_M → Option (Int32 × pm_M)) x11 M10 => if (2 : Int32) ≤ x11 then (if pm_in a1 4 then (pm_lt (pm_sI M10 78 a1.toNatClampNeg (1 : Int32)) fun M12 => if pm_in a1 4 then (pm_lt (pm_sI M12 79 a1.toNatClampNeg (((2 : Int32) * (M12.1 49 1)))) fun M13 => some (((2 : Int32) * (M13.1 49 1)), M13)) else none) else none) else (pm_loop (fun _ _ => none) (fun (g14 : Int32 → pm_M → Option (Int32 × pm_M)) x16 M15 => if (M15.1 49 1) ≤ x16 then (pm_lt ((x11 + (1 : Int32))) fun x17 => g9 x17 M15) else (if pm_in (((5 : Int32) * x11) + x16) 10 then (if pm_in ((((40 : Int32) * a1) + ((M15.1 49 1) * x11)) + x16) 160 then (pm_lt (pm_sL M15 80 ((((40 : Int32) * a1) + ((M15.1 49 1) * x11)) + x16).toNatClampNeg ((M15.1 65 (((5 : Int32) * x11) + x16).toNatClampNeg).toInt64)) fun M18 => pm_lt ((x16 + (1 : Int32))) fun x19 => g14 x19 M18) else none) else none)) 1000000 (0 : Int32) M10)) 1000000 (0 : Int32) M7) (nI j) M7) N2
  have hR3 : qR N3 d := qR_of r1 (by rw [z1, g1 49 (by decide) (by decide)]) (fun b b1 b2 => by rw [z1, g1 b (by omega) (by omega)])
  obtain ⟨a, ⟨a1, a2, a3⟩, e4⟩ := R_fm_out hd hR3 (fun c i hc hi => by rw [z1]; exact g3 c i hc hi) hj
  have k1 : ∀ b, b ≠ 40 + 2 * j → b ∉ [23, 28, 29, 64, 65, 78, 79] → (pm_sI (pm_sI a 78 j 1) 79 j (nI (2 * qS d))).1 b = M.1 b := fun b hb hb2 => by
    simp only [List.mem_cons, List.not_mem_nil, or_false, not_or] at hb2
    rw [sI_1, if_neg (by omega), sI_1, if_neg (by omega), a1, z1, g1 b (by omega) (by omega), f.1, c1 b (by omega) (by omega) (by omega) hb]
  have k1' : ∀ b, b ∉ [64, 65, 78, 79] → (pm_sI (pm_sI a 78 j 1) 79 j (nI (2 * qS d))).1 b = M1.1 b := fun b hb2 => by
    simp only [List.mem_cons, List.not_mem_nil, or_false, not_or] at hb2
    rw [sI_1, if_neg (by omega), sI_1, if_neg (by omega), a1, z1, g1 b (by omega) (by omega), f.1]
  have k2 : ∀ b, b ≠ 41 + 2 * j → b ∉ [23, 49, 59, 60, 80] → a.2 b = M.2 b := fun b hb hb2 => by
    simp only [List.mem_cons, List.not_mem_nil, or_false, not_or] at hb2
    rw [a2 b (by omega), z2 b (by omega), g2 b (by omega), f.2 b (by simp only [List.mem_cons, List.not_mem_nil, or_false, not_or]; omega), c6 b (by omega) hb]
  have k78 : (pm_sI (pm_sI a 78 j 1) 79 j (nI (2 * qS d))).1 78 = upd (M.1 78) j 1 := by
    rw [sI_1, if_neg (by decide), sI_1, if_pos rfl, a1, z1, g1 78 (by decide) (by decide), f.1, c1 78 (by omega) (by omega) (by omega) (by omega)]
  have k79 : (pm_sI (pm_sI a 78 j 1) 79 j (nI (2 * qS d))).1 79 = upd (M.1 79) j (nI (2 * qS d)) := by
    rw [sI_1, if_pos rfl, sI_1, if_neg (by decide), a1, z1, g1 79 (by decide) (by decide), f.1, c1 79 (by omega) (by omega) (by omega) (by omega)]
  have k80 : ∀ k, a.2 80 k = if 40 * j ≤ k ∧ k < 40 * j + qS d * 2 then fvl d (k - 40 * j) else if 40 * j ≤ k ∧ k < 40 * j + 40 then 0 else M.2 80 k := fun k => by
    rw [a3 k, z3 k, g2 80 (by decide), f.2 80 (by decide), c6 80 (by decide) (by omega)]
  have hSh : qSh (pm_sI (pm_sI a 78 j 1) 79 j (nI (2 * qS d))) := by
    intro x hx
    by_cases q : x = j
    · rw [q]
      refine ⟨2 * qS d, by omega, ?_, ?_, ?_, ?_, fun k hk => ?_⟩
      · rw [k1' _ (by simp only [List.mem_cons, List.not_mem_nil, or_false, not_or]; omega)]; exact c5
      · rw [k79, upd_at]
      · rw [k1' _ (by simp only [List.mem_cons, List.not_mem_nil, or_false, not_or]; omega), c4, k78, upd_at]
      · rw [k78, upd_at]
        exact Or.inr (Or.inr (Or.inl rfl))
      · show a.2 (41 + 2 * j) k = a.2 80 (40 * j + k)
        rw [a2 _ (by omega), z2 _ (by omega), g2 _ (by omega), f.2 _ (by simp only [List.mem_cons, List.not_mem_nil, or_false, not_or]; omega), c7 k hk, k80]
        by_cases z : k < qS d * 2
        · rw [if_pos z, if_pos (by omega), show 40 * j + k - 40 * j = k by omega]
        · rw [if_neg z, if_neg (by omega), if_pos (by omega)]
    · refine qSj_k (h7 x hx) (k1 _ (by omega) (by simp only [List.mem_cons, List.not_mem_nil, or_false, not_or]; omega)) (by rw [k78]; exact if_neg q) (by rw [k79]; exact if_neg q) (k2 _ (by omega) (by simp only [List.mem_cons, List.not_mem_nil, or_false, not_or]; omega)) (fun i hi => ?_)
      show a.2 80 (40 * x + i) = _
      rw [k80, if_neg (by omega), if_neg (by omega)]
  have m1 : ∀ b, b ∉ [23, 28, 29, 40, 42, 44, 46, 64, 65, 78, 79] → (pm_sI (pm_sI a 78 j 1) 79 j (nI (2 * qS d))).1 b = M.1 b := fun b hb => by
    simp only [List.mem_cons, List.not_mem_nil, or_false, not_or] at hb
    exact k1 b (by omega) (by simp only [List.mem_cons, List.not_mem_nil, or_false, not_or]; omega)
  have m2 : ∀ b, b ∉ [23, 41, 43, 45, 47, 49, 59, 60, 80] → (pm_sI (pm_sI a 78 j 1) 79 j (nI (2 * qS d))).2 b = M.2 b := fun b hb => by
    simp only [List.mem_cons, List.not_mem_nil, or_false, not_or] at hb
    exact k2 b (by omega) (by simp only [List.mem_cons, List.not_mem_nil, or_false, not_or]; omega)
  have h23 : (pm_sI (pm_sI a 78 j 1) 79 j (nI (2 * qS d))).1 23 = M1.1 23 := k1' 23 (by decide)
  refine ⟨nI (2 * qS d), M1, pm_sI (pm_sI a 78 j 1) 79 j (nI (2 * qS d)), ?_, ?_, d, ?_, qLk_k c3 (by rw [h23]) (k1' 29 (by decide)), qPy_k h3 (m2 7 (by decide)) (m2 55 (by decide)), qKp_k h4 (by rw [m1 49 (by decide)]) (fun b hb => m1 b (by revert b; decide)) (m2 14 (by decide)) (m2 77 (by decide)), qTr_k h5 (fun k _ => by rw [m1 49 (by decide)]) (fun b hb => m1 b (by revert b; decide)), qTp_k h6 (by rw [m1 49 (by decide)]) (m1 37 (by decide)) (m1 38 (by decide)) (m1 56 (by decide)), hSh⟩
  · unfold sC_film
    rw [C_isSheet, q_bd, b2i_t i1, if_pos (by decide), Tours_isSound hT, q_bd, q2i_t hs, if_pos (by decide)]
    exact (C_film_g hj M).trans e1
  · unfold sR_film
    rw [R_isSheet, q_bd, b2i_t i1, if_pos (by decide), e, q_bd, q2i_t hs, if_pos (by decide), e2, q_bv]
    exact e3.trans e4
  · exact ⟨hd, qC_of hC (fun b hb => m1 b (by simp only [List.mem_cons, List.not_mem_nil, or_false, not_or]; omega)), qR_of hR (by rw [m1 49 (by decide)]) (fun b b1 b2 => m1 b (by simp only [List.mem_cons, List.not_mem_nil, or_false, not_or]; omega)), qTo_of hT (fun b b1 b2 => m1 b (by simp only [List.mem_cons, List.not_mem_nil, or_false, not_or]; omega)) (fun b b1 b2 => m2 b (by simp only [List.mem_cons, List.not_mem_nil, or_false, not_or]; omega)), qSt_of hSt (fun k hk => by rw [h23]; exact c2 k (by omega)) (m1 24 (by decide)) (m2 25 (by decide)), fun k hk => by rw [m2 61 (by decide)]; exact hF k hk⟩
