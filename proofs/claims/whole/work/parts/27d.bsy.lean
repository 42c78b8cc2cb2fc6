/-! BUSY, NARROW -/
/-- the class's table for all stations -/
theorem States_fill {M : pm_M} {d : qD} (hd : qOK d) (hSt : qSt M d (qdd d)) : ∃ M', sStates_fillConstants (M.1 23 1) (M.1 23 2) (M.1 23 0) (-1 : Int32) M = some M' ∧ qfL [26, 27] M M' ∧ qSt M' d (qdd d) ∧ ∀ x y, x ≤ qP d 0 → y ≤ qP d 1 → M'.2 26 (7 * x + y) = nL (qtb d x y) := by
  obtain ⟨M', e, f, t⟩ := States_fillConstants hd hSt qas_no (hd.2.2.2.2.2.1 0) (hd.2.2.2.2.2.1 1) hd.2.2.2.2.2.2.1 (Nat.le_refl (qS d))
  exact ⟨M', by rw [hSt.1, hSt.2.1, hSt.2.2.1]; exact e, f, qSt_L hSt f (by decide), t⟩
def qba (D : Nat → Nat → Nat) (T : Nat → Nat → Nat) (x y s : Nat) : Nat := D 0 s * qra T 0 x y + D 1 s * qra T 1 x y
noncomputable def qbs (d : qD) (s : Nat) : Nat := qba (qdd d) (qtb d) (qP d 0) (qP d 1) s
theorem qbs_le {d : qD} (hd : qOK d) (hs : qsnd d) (s : Nat) : qbs d s ≤ 510935040000000000 := by
  have b0 := qra_le (qtb_7 hd hs) 0 (hd.2.2.2.2.2.1 0) (hd.2.2.2.2.2.1 1) hd.2.2.2.2.2.2.1
  have b1 := qra_le (qtb_7 hd hs) 1 (hd.2.2.2.2.2.1 0) (hd.2.2.2.2.2.1 1) hd.2.2.2.2.2.2.1
  unfold qbs qba
  have c0 := Nat.mul_le_mul (qdd_20 hd hs 0 s (by omega)) b0
  have c1 := Nat.mul_le_mul (qdd_20 hd hs 1 s (by omega)) b1
  omega
theorem States_busyAbove {M : pm_M} {d : qD} (hd : qOK d) (hSt : qSt M d (qdd d)) {s : Nat} (hsS : s < qS d) : ∃ M', sStates_busyAbove (nI s) M = some (nL (qbs d s), M') ∧ qfL [26, 27] M M' := by
  have hS := hd.1
  obtain ⟨M', e, f, st, t⟩ := States_fill hd hSt
  have hin : pm_in (nI s) 10 := by rw [nI_in_iff (by omega)]; omega
  have hin2 : pm_in (nI (5 + s)) 10 := by rw [nI_in_iff (by omega)]; omega
  have hck : (nI s).toNatClampNeg = s := nI_clamp (by omega)
  have hck2 : (nI (5 + s)).toNatClampNeg = 5 + s := nI_clamp (by omega)
  have e0 : M'.2 25 s = nL (qdd d 0 s) := by have := st.2.2.2.2 0 s (by omega) hsS; rwa [Nat.mul_zero, Nat.zero_add] at this
  have e1 : M'.2 25 (5 + s) = nL (qdd d 1 s) := st.2.2.2.2 1 s (by omega) hsS
  have a0 : sStates_oneLessAbove (0 : Int32) (nI (qP d 0)) (nI (qP d 1)) M' = _ := States_oneLess (c := 0) (by omega) (hd.2.2.2.2.2.1 0) (hd.2.2.2.2.2.1 1) t
  have a1 : sStates_oneLessAbove (1 : Int32) (nI (qP d 0)) (nI (qP d 1)) M' = _ := States_oneLess (c := 1) (by omega) (hd.2.2.2.2.2.1 0) (hd.2.2.2.2.2.1 1) t
  refine ⟨M', ?_, f⟩
  unfold sStates_busyAbove
  rw [e, q_bv]
  simp only [q5s, eq_true hin, eq_true hin2, hck, hck2, if_true]
  rw [st.2.1, st.2.2.1, a0, q_bd, q_lt, st.2.1, st.2.2.1, a1, q_bd, e0, e1, nL_mul, nL_mul, nL_add]
  rfl
theorem R_busyAbove {N : pm_M} {d : qD} (hd : qOK d) (h : qRd N d) {s : Nat} (hs : s < 5) : sR_busyAbove (nI s) N = some (nL (qbs d s), N) := by
  have hin : pm_in (nI s) 10 := by rw [nI_in_iff (by omega)]; omega
  have hin2 : pm_in (nI (5 + s)) 10 := by rw [nI_in_iff (by omega)]; omega
  have hck : (nI s).toNatClampNeg = s := nI_clamp (by omega)
  have hck2 : (nI (5 + s)).toNatClampNeg = 5 + s := nI_clamp (by omega)
  have e0 : N.2 60 s = nL (qdd d 0 s) := by have := h.2.2.1.1 0 s (by omega) hs; rwa [Nat.mul_zero, Nat.zero_add] at this
  have e1 : N.2 60 (5 + s) = nL (qdd d 1 s) := h.2.2.1.1 1 s (by omega) hs
  have a0 : sR_rateAbove (0 : Int32) (nI (qP d 0)) (nI (qP d 1)) N = _ := R_rateAbove (c := 0) h.2.2.2 (by omega) (hd.2.2.2.2.2.1 0) (hd.2.2.2.2.2.1 1) hd.2.2.2.2.2.2.1
  have a1 : sR_rateAbove (1 : Int32) (nI (qP d 0)) (nI (qP d 1)) N = _ := R_rateAbove (c := 1) h.2.2.2 (by omega) (hd.2.2.2.2.2.1 0) (hd.2.2.2.2.2.1 1) hd.2.2.2.2.2.2.1
  unfold sR_busyAbove
  simp only [q5s, eq_true hin, eq_true hin2, hck, hck2, if_true]
  rw [h.1.2.2.2.2.1, h.1.2.2.2.2.1, a0, q_bd, h.1.2.2.2.2.1, h.1.2.2.2.2.1, a1, q_bd, e0, e1, nL_mul, nL_mul, nL_add]
  rfl
theorem States_constantOfAll {M : pm_M} {d : qD} (hd : qOK d) (hSt : qSt M d (qdd d)) : ∃ M', sStates_constantOfAll M = some (nL (qtb d (qP d 0) (qP d 1)), M') ∧ qfL [26, 27] M M' := by
  obtain ⟨M', e, f, -⟩ := States_constantOf hd hSt (hd.2.2.2.2.2.1 0) (hd.2.2.2.2.2.1 1) hd.2.2.2.2.2.2.1 (Nat.le_refl (qS d))
  refine ⟨M', ?_, f⟩
  unfold sStates_constantOfAll
  rw [hSt.1, hSt.2.1, hSt.2.2.1, e, q_bd]
  rfl
theorem R_wholeAll {N : pm_M} {d : qD} (hd : qOK d) (h : qRd N d) : sR_whole (N.1 53 0) (N.1 53 1) N = some (nL (qtb d (qP d 0) (qP d 1)), N) := by
  rw [h.1.2.2.2.2.1, h.1.2.2.2.2.1]
  exact R_whole h.2.2.2 (hd.2.2.2.2.2.1 0) (hd.2.2.2.2.2.1 1) hd.2.2.2.2.2.2.1
theorem P_busy {M : pm_M} {d : qD} (h : qNet M d) (a1 a2 : Int32) : qPur (sC_busy a1 a2) (sR_busy a1 a2) M := by
  obtain ⟨hd, hC, hR, hT, hSt, hF⟩ := id h
  have hS := hd.1
  by_cases i1 : pm_in a1 (qS d)
  case neg =>
    refine ⟨qNO, M, M, ?_, ?_, qScr_rf⟩
    · unfold sC_busy
      rw [Net_hasStation hd hC, q_bd, b2i_f i1, if_pos rfl]
      rfl
    · unfold sR_busy
      rw [R_isStation hd hR, q_bd, b2i_f i1, if_pos rfl]
      rfl
  by_cases i2 : pm_in a2 2
  case neg =>
    refine ⟨qNO, M, M, ?_, ?_, qScr_rf⟩
    · unfold sC_busy
      rw [Net_hasStation hd hC, q_bd, b2i_t i1, if_neg (by decide), C_isLine, q_bd, b2i_f i2, if_pos rfl]
      rfl
    · unfold sR_busy
      rw [R_isStation hd hR, q_bd, b2i_t i1, if_neg (by decide), R_in01, q_bd, b2i_f i2, if_pos rfl]
      rfl
  obtain ⟨s, hsS, -, rfl⟩ := pm_kx i1
  obtain ⟨l, hl, -, rfl⟩ := pm_kx i2
  have hK := hd.2.1 s
  have hk : nI (qK d s) = 3 ↔ qK d s = 3 := by rw [q3, nI_inj (by omega) (by omega)]
  have hin5 : pm_in (nI s) 5 := by rw [nI_in_iff (by omega)]; omega
  have hck : (nI s).toNatClampNeg = s := nI_clamp (by omega)
  by_cases w : qK d s = 3
  · refine ⟨qNO, M, M, ?_, ?_, qScr_rf⟩
    · unfold sC_busy
      rw [Net_hasStation hd hC, q_bd, b2i_t i1, if_neg (by decide), C_isLine, q_bd, b2i_t i2, if_neg (by decide), if_pos hin5, hck, hC.2.1, if_neg (fun q => q (hk.mpr w))]
      rfl
    · unfold sR_busy
      rw [R_isStation hd hR, q_bd, b2i_t i1, if_neg (by decide), R_in01, q_bd, b2i_t i2, if_neg (by decide), if_pos hin5, hck, hR.2.1, if_pos (hk.mpr w)]
      rfl
  have eC : sC_busy (nI s) (nI l) M = (if ¬ q2i (qsnd d) = 0 then (pm_bd (sStates_busyAbove (nI s) M) fun v8 M7 => pm_bd (sStates_constantOfAll M7) fun v10 M9 => pm_bd (sC_fraction v8 v10 (nI l) M9) fun v12 M11 => some (v12, M11)) else (some ((-4611686018427387904 : Int64), M))) := by
    unfold sC_busy
    rw [Net_hasStation hd hC, q_bd, b2i_t i1, if_neg (by decide), C_isLine, q_bd, b2i_t i2, if_neg (by decide), if_pos hin5, hck, hC.2.1, if_pos (fun q => w (hk.mp q)), Tours_isSound hT, q_bd]
  have eR : ∀ L, qNet L d → ∃ N, qfL [59, 60] L N ∧ qR N d ∧ qFa N ∧ (qsnd d → qDm N d) ∧ sR_busy (nI s) (nI l) L = (if ¬ q2i (qsnd d) = 0 then (pm_bv (sR_constants (N.1 49 1) (-1 : Int32) N) fun M7 => pm_bd (sR_busyAbove (nI s) M7) fun v9 M8 => pm_bd (sR_whole (M8.1 53 0) (M8.1 53 1) M8) fun v11 M10 => pm_bd (sR_part v9 v11 (nI l) M10) fun v13 M12 => some (v13, M12)) else (some ((-4611686018427387904 : Int64), N))) := by
    intro L hL
    obtain ⟨N, e, f, r1, r2, r3⟩ := R_snd2 hL
    refine ⟨N, f, r1, r2, r3, ?_⟩
    unfold sR_busy
    rw [R_isStation hd hL.2.2.1, q_bd, b2i_t i1, if_neg (by decide), R_in01, q_bd, b2i_t i2, if_neg (by decide), if_pos hin5, hck, hL.2.2.1.2.1, if_neg (fun q => w (hk.mp q)), e, q_bd]
  by_cases hs : qsnd d
  · obtain ⟨M1, e1, f1⟩ := States_busyAbove hd hSt hsS
    obtain ⟨M2, e2, f2⟩ := States_constantOfAll hd (qSt_L hSt f1 (by decide))
    have hM2 : qNet M2 d := qNet_scr h (qScr_tr (qScr_L f1 (by decide)) (qScr_L f2 (by decide)))
    obtain ⟨N, f, r1, r2, r3, e⟩ := eR M2 hM2
    obtain ⟨N', e', f', t'⟩ := R_ready hd r1 r2 (r3 hs)
    have b1 := qbs_le hd hs s
    have b2 := qtb_8 hd hs (hd.2.2.2.2.2.1 0) (hd.2.2.2.2.2.1 1) hd.2.2.2.2.2.2.1
    have b3 := qtb_all hd hs
    refine ⟨nL (qfrc (qbs d s) (qtb d (qP d 0) (qP d 1)) l), M2, N', ?_, ?_, qScr_tr (qScr_tr (qScr_L f1 (by decide)) (qScr_L f2 (by decide))) (qScr_tr (qScr_L f (by decide)) (qScr_L f' (by decide)))⟩
    · rw [eC, q2i_t hs, if_pos (by decide), e1, q_bd, e2, q_bd, C_fraction (by omega) (by omega) b3 hl, q_bd]
    · rw [e, q2i_t hs, if_pos (by decide), r1.1, e', q_bv, R_busyAbove hd t' (by omega), q_bd, R_wholeAll hd t', q_bd, R_part (by omega) (by omega) b3 hl, q_bd]
  · obtain ⟨N, f, r1, r2, r3, e⟩ := eR M h
    exact ⟨qNO, M, N, by rw [eC, q2i_f hs, if_neg (fun q => q rfl)]; rfl, by rw [e, q2i_f hs, if_neg (fun q => q rfl)]; rfl, qScr_L f (by decide)⟩
/-- the narrowest of the first n (0: none; else one more) -/
noncomputable def qnr (d : qD) : Nat → Nat
  | 0 => 0
  | n + 1 => if qK d n = 3 then qnr d n else if qnr d n = 0 ∨ qbs d (qnr d n - 1) < qbs d n then n + 1 else qnr d n
theorem qnr_le (d : qD) : ∀ n, qnr d n ≤ n
  | 0 => Nat.le_refl _
  | n + 1 => by
    have := qnr_le d n
    unfold qnr
    split
    · omega
    · split <;> omega
theorem hI_m1 {k : Nat} (hk : k < 1000) : hI k = -1 ↔ k = 0 := by
  cases k with
  | zero => exact ⟨fun _ => rfl, fun _ => rfl⟩
  | succ k => exact ⟨fun q => absurd q (nI_m1 (by omega)), fun q => by omega⟩
theorem hI_pos {k : Nat} (hk : k ≠ 0) : hI k = nI (k - 1) := by
  cases k with
  | zero => exact absurd rfl hk
  | succ k => rfl
theorem P_narrow {M : pm_M} {d : qD} (h : qNet M d) : qPur sC_narrow sR_narrow M := by
  obtain ⟨hd, hC, hR, hT, hSt, hF⟩ := id h
  have hS := hd.1
  by_cases hs : qsnd d
  case neg =>
    obtain ⟨N, e, f, r1, r2, r3⟩ := R_snd2 h
    refine ⟨-3, M, N, ?_, ?_, qScr_L f (by decide)⟩
    · unfold sC_narrow
      rw [Tours_isSound hT, q_bd, q2i_f hs, if_neg (fun q => q rfl)]
    · unfold sR_narrow
      rw [e, q_bd, q2i_f hs, if_neg (fun q => q rfl)]
  have hk : ∀ i, i < 5 → (nI (qK d i) = 3 ↔ qK d i = 3) := fun i _ => by have := hd.2.1 i; rw [q3, nI_inj (by omega) (by omega)]
  have hC1 : ∃ M1, sC_narrow M = some (hI (qnr d (qS d)), M1) ∧ qfL [26, 27] M M1 := by
    unfold sC_narrow
    rw [Tours_isSound hT, q_bd, q2i_t hs, if_pos (by decide)]
    refine q_fz (fun o => ∃ M1, o = some (hI (qnr d (qS d)), M1) ∧ qfL [26, 27] M M1) (fun i N (g : Int32 → Int64 → Int32 → pm_M → Option (Int32 × pm_M)) => g (hI (qnr d i)) (nL (if qnr d i = 0 then 0 else qbs d (qnr d i - 1))) (nI i) N) (fun i N => qfL [26, 27] M N) (qS d) ?_ ?_ (by omega) qfL_rf
    · intro i N hi f g
      have hCN : qC N d := qC_of hC (fun b _ => by rw [f.1])
      have hin5 : pm_in (nI i) 5 := by rw [nI_in_iff (by omega)]; omega
      have hnl := qnr_le d i
      have b1 := qbs_le hd hs i
      have b2 := qbs_le hd hs (qnr d i - 1)
      have hn : qnr d (i + 1) = if qK d i = 3 then qnr d i else if qnr d i = 0 ∨ qbs d (qnr d i - 1) < qbs d i then i + 1 else qnr d i := rfl
      rw [hCN.1, if_neg (by rw [nI_le_iff (by omega) (by omega)]; omega), if_pos hin5, nI_clamp (by omega), hCN.2.1, hn]
      by_cases w : qK d i = 3
      · rw [if_neg (fun q => q ((hk i (by omega)).mpr w)), if_pos w, q_lt, ← nI_succ]
        exact ⟨N, f, rfl⟩
      · obtain ⟨N1, e1, f1⟩ := States_busyAbove hd (qSt_L hSt f (by decide)) hi
        rw [if_pos (fun q => w ((hk i (by omega)).mp q)), if_neg w, e1, q_bd, q_jn]
        refine ⟨N1, qfL_tr f f1, ?_⟩
        dsimp only
        rw [q_lt, ← nI_succ]
        by_cases z : qnr d i = 0
        · rw [if_pos ((hI_m1 (by omega)).mpr z), if_pos (Or.inl z), if_neg (by omega)]
          rfl
        · rw [if_neg (fun q => z ((hI_m1 (by omega)).mp q)), if_neg z]
          by_cases y : qbs d (qnr d i - 1) < qbs d i
          · rw [if_neg (by rw [cmp_le, nL_le_iff (by omega) (by omega)]; omega), if_pos (Or.inr y), if_neg (by omega)]
            rfl
          · rw [if_pos (by rw [cmp_le, nL_le_iff (by omega) (by omega)]; omega), if_neg (show ¬ (qnr d i = 0 ∨ qbs d (qnr d i - 1) < qbs d i) from fun q => q.elim z y), if_neg z, q_lt]
    · intro N f g
      have hCN : qC N d := qC_of hC (fun b _ => by rw [f.1])
      rw [hCN.1, if_pos (Int32.le_refl _)]
      exact ⟨N, rfl, f⟩
  obtain ⟨M1, e1, f1⟩ := hC1
  obtain ⟨N, e, f, r1, r2, r3⟩ := R_snd2 (qNet_scr h (qScr_L f1 (by decide)))
  obtain ⟨N', e', f', t'⟩ := R_ready hd r1 r2 (r3 hs)
  refine ⟨hI (qnr d (qS d)), M1, N', e1, ?_, qScr_tr (qScr_L f1 (by decide)) (qScr_tr (qScr_L f (by decide)) (qScr_L f' (by decide)))⟩
  unfold sR_narrow
  rw [e, q_bd, q2i_t hs, if_pos (by decide), r1.1, e', q_bv]
  refine q_for (fun i (g : Int32 → Int32 → pm_M → Option (Int32 × pm_M)) => g (hI (qnr d i)) (nI i) N') (N := qS d) ?_ ?_ (by omega)
  · intro i hi g
    have hin5 : pm_in (nI i) 5 := by rw [nI_in_iff (by omega)]; omega
    have hnl := qnr_le d i
    have b1 := qbs_le hd hs i
    have b2 := qbs_le hd hs (qnr d i - 1)
    have hn : qnr d (i + 1) = if qK d i = 3 then qnr d i else if qnr d i = 0 ∨ qbs d (qnr d i - 1) < qbs d i then i + 1 else qnr d i := rfl
    rw [t'.1.1, if_neg (by rw [nI_le_iff (by omega) (by omega)]; omega), if_pos hin5, nI_clamp (by omega), t'.1.2.1, hn]
    by_cases w : qK d i = 3
    · rw [if_pos ((hk i (by omega)).mpr w), if_pos w, q_lt, ← nI_succ]
    · rw [if_neg (fun q => w ((hk i (by omega)).mp q)), if_neg w]
      by_cases z : qnr d i = 0
      · rw [if_pos ((hI_m1 (by omega)).mpr z), if_pos (Or.inl z), q_lt, ← nI_succ]
        rfl
      · rw [if_neg (fun q => z ((hI_m1 (by omega)).mp q)), R_busyAbove hd t' (by omega), q_bd, hI_pos z, R_busyAbove hd t' (by omega), q_bd]
        by_cases y : qbs d (qnr d i - 1) < qbs d i
        · rw [if_neg (by rw [cmp_le, nL_le_iff (by omega) (by omega)]; omega), if_pos (Or.inr y), q_lt, ← nI_succ]
          rfl
        · rw [if_pos (by rw [cmp_le, nL_le_iff (by omega) (by omega)]; omega), if_neg (show ¬ (qnr d i = 0 ∨ qbs d (qnr d i - 1) < qbs d i) from fun q => q.elim z y), q_lt, ← nI_succ, hI_pos z]
  · intro g
    rw [t'.1.1, if_pos (Int32.le_refl _)]
