/-! SHEETS: told to be -/
def qzr (j i : Nat) (M M' : pm_M) : Prop := M'.1 = M.1 ∧ (∀ b, b ≠ 80 → M'.2 b = M.2 b) ∧ ∀ k, M'.2 80 k = if 40 * j ≤ k ∧ k < 40 * j + i then 0 else M.2 80 k
theorem R_zero {ρ : Type} {j : Nat} (hj : j < 4) (E : pm_M → Option ρ) (M : pm_M) : ∃ M', qzr j 40 M M' ∧ pm_loop (fun _ _ => none) (fun (g14 : Int32 → pm_M → Option ρ) x16 M15 => if (40 : Int32) ≤ x16 then E M15 else (if pm_in (((40 : Int32) * nI j) + x16) 160 then (pm_lt (pm_sL M15 80 (((40 : Int32) * nI j) + x16).toNatClampNeg (0 : Int64)) fun M17 => pm_lt ((x16 + (1 : Int32))) fun x18 => g14 x18 M17) else none)) 1000000 (0 : Int32) M = E M' := by
  refine q_fz (fun r => ∃ M', qzr j 40 M M' ∧ r = E M') (fun i a (g : Int32 → pm_M → Option ρ) => g (nI i) a) (fun i a => qzr j i M a) 40 ?_ ?_ (n := 1000000) (a := M) (by omega) ⟨rfl, fun _ _ => rfl, fun k => by rw [if_neg (by omega)]⟩
  · intro i a hi ha g
    obtain ⟨a1, a2, a3⟩ := ha
    refine ⟨pm_sL a 80 (40 * j + i) 0, ⟨a1, fun b hb => by rw [sL_2, if_neg hb, a2 b hb], fun k => ?_⟩, ?_⟩
    · rw [sL_2, if_pos rfl]
      unfold vp_updL
      rw [a3 k]
      by_cases q : k = 40 * j + i
      · rw [if_pos q, if_pos (by omega)]
      · rw [if_neg q]
        by_cases q2 : 40 * j ≤ k ∧ k < 40 * j + i
        · rw [if_pos q2, if_pos (by omega)]
        · rw [if_neg q2, if_neg (by omega)]
    · rw [if_neg (by rw [show (40 : Int32) = nI 40 from rfl, nI_le_iff (by omega) (by omega)]; omega), q40, if_pos (by rw [nI_in_iff (by omega)]; omega), nI_cl _ (by omega), q_lt, q_lt, ← nI_succ]
  · intro a ha g
    refine ⟨a, ha, ?_⟩
    rw [if_pos (by decide)]
/-- the sheet is made anew, on both sides -/
theorem qSj_new {M M' : pm_M} {j n : Nat} {s : Int32} (hj : j < 4) (hn : n ≤ 40) (hs : s = -1 ∨ s = 0 ∨ s = 1 ∨ s = 2) {X Y : pm_M} (eX : X = mu_L (pm_sI (pm_sI M (40 + 2 * j) 0 s) (40 + 2 * j) 1 (nI n)) (41 + 2 * j) (qfl (M.2 (41 + 2 * j)) 0 40)) (eY : Y = pm_sI (pm_sI X 78 j s) 79 j (nI n)) (hz : qzr j 40 Y M') : (qSh M → qSh M') ∧ (∀ b, b ∉ [40, 42, 44, 46, 78, 79] → M'.1 b = M.1 b) ∧ ∀ b, b ∉ [41, 43, 45, 47, 80] → M'.2 b = M.2 b := by
  obtain ⟨z1, z2, z3⟩ := hz
  have x1 : ∀ b, b ≠ 40 + 2 * j → X.1 b = M.1 b := fun b hb => by rw [eX]; show (pm_sI (pm_sI M _ 0 s) _ 1 (nI n)).1 b = _; rw [sI_1, if_neg hb, sI_1, if_neg hb]
  have x10 : X.1 (40 + 2 * j) = upd (upd (M.1 (40 + 2 * j)) 0 s) 1 (nI n) := by rw [eX]; show (pm_sI (pm_sI M _ 0 s) _ 1 (nI n)).1 _ = _; rw [sI_1, if_pos rfl, sI_1, if_pos rfl]
  have x2 : ∀ b, b ≠ 41 + 2 * j → X.2 b = M.2 b := fun b hb => by rw [eX, uL_0 _ _ _ _ hb]; rfl
  have x20 : X.2 (41 + 2 * j) = qfl (M.2 (41 + 2 * j)) 0 40 := by rw [eX, uL_a]
  have y1 : ∀ b, b ≠ 78 → b ≠ 79 → Y.1 b = X.1 b := fun b h h' => by rw [eY, sI_1, if_neg h', sI_1, if_neg h]
  have y78 : Y.1 78 = upd (M.1 78) j s := by rw [eY, sI_1, if_neg (by decide), sI_1, if_pos rfl, x1 78 (by omega)]
  have y79 : Y.1 79 = upd (M.1 79) j (nI n) := by rw [eY, sI_1, if_pos rfl, sI_1, if_neg (by decide), x1 79 (by omega)]
  have y2 : Y.2 = X.2 := by rw [eY]; rfl
  have e78 : M'.1 78 = upd (M.1 78) j s := by rw [z1, y78]
  have e79 : M'.1 79 = upd (M.1 79) j (nI n) := by rw [z1, y79]
  have ei : M'.1 (40 + 2 * j) = upd (upd (M.1 (40 + 2 * j)) 0 s) 1 (nI n) := by rw [z1, y1 _ (by omega) (by omega), x10]
  have o1 : ∀ b, b ≠ 40 + 2 * j → b ≠ 78 → b ≠ 79 → M'.1 b = M.1 b := fun b h h' h'' => by rw [z1, y1 b h' h'', x1 b h]
  have o2 : ∀ b, b ≠ 41 + 2 * j → b ≠ 80 → M'.2 b = M.2 b := fun b h h' => by rw [z2 b h', y2, x2 b h]
  have hj2 := row_I hj
  have hj3 := row_L hj
  refine ⟨fun h => qSh_upd hj h ⟨n, hn, ?_, ?_, ?_, ?_, fun k hk => ?_⟩ o1 o2 (fun k hk => ?_) (fun k hk => ?_) (fun k hk ho => ?_), fun b hb => o1 b (fun q => hb (by rw [q]; exact hj2)) (fun q => hb (by rw [q]; decide)) (fun q => hb (by rw [q]; decide)), fun b hb => o2 b (fun q => hb (by rw [q]; exact hj3)) (fun q => hb (by rw [q]; decide))⟩
  · rw [ei, upd_at]
  · rw [e79, upd_at]
  · rw [ei, e78, upd_at]; rfl
  · rw [e78, upd_at]; exact hs
  · rw [z2 _ (by omega), y2, x20, qfl_at _ _ hk, z3, if_pos (by omega)]
  · rw [e78]; exact if_neg hk
  · rw [e79]; exact if_neg hk
  · rw [z3, if_neg (fun q => ho (k - 40 * j) (by omega) (by omega)), y2, x2 80 (by omega)]
theorem I_sheet {t : Nat} {M : pm_M} (h : qInv t M) (a b c : Int32) : qBo t (sC_sheet a b c) (sR_sheet a b c) M := by
  obtain ⟨d, h1, h2, h3, h4, h5, h6, h7⟩ := id h
  by_cases i1 : pm_in a 4
  case neg =>
    refine ⟨-2, M, M, ?_, ?_, h⟩
    · unfold sC_sheet
      rw [C_isSheet, q_bd, b2i_f i1, if_pos rfl]
    · unfold sR_sheet
      rw [R_isSheet, q_bd, b2i_f i1, if_pos rfl]
  obtain ⟨j, hj, -, rfl⟩ := pm_kx i1
  have hck : (nI j).toNatClampNeg = j := nI_cl j (by omega)
  have hr : ∀ M, sR_in b.toInt64 (-1) 2 M = some (b2i (b = -1 ∨ pm_in b 3), M) := fun M => by
    rw [R_in]
    congr 2
    apply b2i_congr
    rw [pm_in_toInt, Int64.le_iff_toInt_le, Int64.le_iff_toInt_le, Int32.toInt_toInt64, ← Int32.toInt_inj, show (-1 : Int32).toInt = -1 from rfl, show (-1 : Int64).toInt = -1 from rfl, show (2 : Int64).toInt = 2 from rfl]
    omega
  by_cases m : b = -1
  · obtain ⟨M', z, e⟩ := R_zero hj (fun M15 => some ((1 : Int32), M15)) (pm_sI (pm_sI (mu_L (pm_sI (pm_sI M (40 + 2 * j) 0 (-1)) (40 + 2 * j) 1 0) (41 + 2 * j) (qfl (M.2 (41 + 2 * j)) 0 40)) 78 j (-1)) 79 j 0)
    obtain ⟨w1, w2, w3⟩ := qSj_new (n := 0) (s := -1) hj (by omega) (Or.inl rfl) rfl rfl z
    refine ⟨1, _, M', by rw [C_sheet_g hj]; unfold gC_sheet; rw [if_pos m], ?_, qInv_sh h w2 w3 (w1 h7)⟩
    unfold sR_sheet
    rw [R_isSheet, q_bd, b2i_t i1, if_neg (by decide), hr, q_bd, b2i_t (Or.inl m), if_neg (by decide), q_jn, if_pos m]
    dsimp only
    rw [q_jn, if_pos m]
    dsimp only
    rw [if_pos i1, q_lt, q_jn, if_neg (fun q => q m)]
    dsimp only
    rw [if_pos i1, q_lt]
    simp only [hck, m]
    exact e
  by_cases i2 : pm_in b 3
  case neg =>
    refine ⟨-2, M, M, ?_, ?_, h⟩
    · rw [C_sheet_g hj]
      unfold gC_sheet
      rw [if_neg m, if_neg i2]
    · unfold sR_sheet
      rw [R_isSheet, q_bd, b2i_t i1, if_neg (by decide), hr, q_bd, b2i_f (fun q => q.elim m i2), if_pos rfl]
  by_cases z1 : c ≤ 40
  case neg =>
    refine ⟨-2, M, M, ?_, ?_, h⟩
    · rw [C_sheet_g hj]
      unfold gC_sheet
      rw [if_neg m, if_pos i2, if_neg z1]
    · unfold sR_sheet
      rw [R_isSheet, q_bd, b2i_t i1, if_neg (by decide), hr, q_bd, b2i_t (Or.inr i2), if_neg (by decide), q_jn, if_neg m, if_neg z1]
  by_cases z2 : 0 ≤ c
  case neg =>
    refine ⟨-14, M, M, ?_, ?_, h⟩
    · rw [C_sheet_g hj]
      unfold gC_sheet
      rw [if_neg m, if_pos i2, if_pos z1, if_neg z2]
    · unfold sR_sheet
      rw [R_isSheet, q_bd, b2i_t i1, if_neg (by decide), hr, q_bd, b2i_t (Or.inr i2), if_neg (by decide), q_jn, if_neg m, if_pos z1]
      dsimp only
      rw [q_jn, if_neg m, if_neg z2]
  obtain ⟨n, hn, rfl⟩ := nI_ex (Int32.not_lt.mpr z2)
  have hn40 : n ≤ 40 := by
    rw [show (40 : Int32) = nI 40 from rfl, nI_le_iff hn (by omega)] at z1
    exact z1
  have hb : b = 0 ∨ b = 1 ∨ b = 2 := by
    obtain ⟨k, hk, -, rfl⟩ := pm_kx i2
    rcases (show k = 0 ∨ k = 1 ∨ k = 2 by omega) with rfl | rfl | rfl
    · exact Or.inl rfl
    · exact Or.inr (Or.inl rfl)
    · exact Or.inr (Or.inr rfl)
  obtain ⟨M', z, e⟩ := R_zero hj (fun M15 => some ((1 : Int32), M15)) (pm_sI (pm_sI (mu_L (pm_sI (pm_sI M (40 + 2 * j) 0 b) (40 + 2 * j) 1 (nI n)) (41 + 2 * j) (qfl (M.2 (41 + 2 * j)) 0 40)) 78 j b) 79 j (nI n))
  obtain ⟨w1, w2, w3⟩ := qSj_new (n := n) (s := b) hj hn40 (Or.inr hb) rfl rfl z
  refine ⟨1, _, M', by rw [C_sheet_g hj]; unfold gC_sheet; rw [if_neg m, if_pos i2, if_pos z1, if_pos z2], ?_, qInv_sh h w2 w3 (w1 h7)⟩
  unfold sR_sheet
  rw [R_isSheet, q_bd, b2i_t i1, if_neg (by decide), hr, q_bd, b2i_t (Or.inr i2), if_neg (by decide), q_jn, if_neg m, if_pos z1]
  dsimp only
  rw [q_jn, if_neg m, if_pos z2]
  dsimp only
  rw [if_pos i1, q_lt, q_jn, if_pos m]
  dsimp only
  rw [if_pos i1, q_lt]
  simp only [hck]
  exact e
