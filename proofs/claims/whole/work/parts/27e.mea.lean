/-! MEAN -/
noncomputable def qta (d : qD) (s : Nat) : Nat → Nat → Nat := qcn (qdd d) (qK d) s (qS d)
noncomputable def qnt (d : qD) (c s a b : Nat) : Nat := (if c = 0 then a else b) * qws2 (qdd d) (qK d) (qta d s) s (qP d 0) (qP d 1) a b
noncomputable def qnm (d : qD) (c s : Nat) : Nat := qsm (fun a => qsm (fun b => qnt d c s a b) (qP d 1 + 1)) (qP d 0 + 1)
theorem qnm_le {d : qD} (hd : qOK d) (hs : qsnd d) (c : Nat) {s : Nat} (hsS : s < qS d) : qnm d c s ≤ 3065610240000000000 := by
  have hS := hd.1
  have hp0 := hd.2.2.2.2.2.1 0
  have hp1 := hd.2.2.2.2.2.1 1
  have h88 := hd.2.2.2.2.2.2.1
  have h1 : qnm d c s ≤ 6 * qgw (qdd d) (qK d) (qta d s) s (qP d 0) (qP d 1) := by
    unfold qnm qgw
    rw [← qsm_mul]
    refine qsm_le _ (fun a ha => ?_)
    rw [← qsm_mul]
    refine qsm_le _ (fun b hb => ?_)
    unfold qnt
    refine Nat.mul_le_mul_right _ ?_
    split <;> omega
  have h2 := qgw_le (D := qdd d) (qK d) (qdd_20 hd hs) (T := qta d s) (r := qrr s (qS d)) (by unfold qrr; split <;> omega) (fun x y hx hy hxy => qcn_le (qK d) (qdd_20 hd hs) s (qS d) hS x y hx hy hxy) s hp0 hp1 h88
  have h3 : qrr s (qS d) + 1 ≤ 5 := by unfold qrr; rw [if_pos hsS]; omega
  have h4 := Nat.le_trans h2 (Nat.le_trans (Nat.mul_le_mul_left _ (qri_le _ h3)) (bi_b8 (qP d 0 + qP d 1) (by omega)))
  omega
theorem States_numberAbove {M : pm_M} {d : qD} (hd : qOK d) (hSt : qSt M d (qdd d)) {c s : Nat} (hc : c < 2) (hsS : s < qS d) : ∃ M', sStates_numberAbove (nI c) (nI s) M = some (nL (qnm d c s), M') ∧ qfL [26, 27] M M' := by
  have hS := hd.1
  have hp0 := hd.2.2.2.2.2.1 0
  have hp1 := hd.2.2.2.2.2.1 1
  have h88 := hd.2.2.2.2.2.2.1
  obtain ⟨M1, e1, f1, t1⟩ := States_fillConstants hd hSt (qas_at (s := s) (by omega)) hp0 hp1 h88 (Nat.le_refl (qS d))
  have hSt1 := qSt_L hSt f1 (by decide)
  obtain ⟨M2, e2, f2, t2⟩ := States_fillFactors hd hSt1 (s := s) hsS hp0 hp1 h88
  have hSt2 := qSt_L hSt1 f2 (by decide)
  refine ⟨M2, ?_, qfL_tr f1 (qfL_sub f2 (by decide))⟩
  have t3 : ∀ x y, x ≤ qP d 0 → y ≤ qP d 1 → M2.2 26 (7 * x + y) = nL (qta d s x y) := fun x y hx hy => by rw [f2.2 26 (by decide)]; exact t1 x y hx hy
  unfold sStates_numberAbove
  rw [hSt.1, hSt.2.1, hSt.2.2.1, e1, q_bv, hSt1.2.1, hSt1.2.2.1, e2, q_bv]
  refine q_for (fun a (g : Int64 → Int32 → pm_M → Option (Int64 × pm_M)) => g (nL (qsm (fun a => qsm (fun b => qnt d c s a b) (qP d 1 + 1)) a)) (nI a) M2) (N := qP d 0 + 1) ?_ ?_ (by omega)
  · intro a ha g3
    rw [hSt2.2.1, if_neg (by rw [nI_lt_iff (by omega) (by omega)]; omega)]
    rw [show qsm (fun a => qsm (fun b => qnt d c s a b) (qP d 1 + 1)) (a + 1) = qsm (fun a => qsm (fun b => qnt d c s a b) (qP d 1 + 1)) a + qsm (fun b => qnt d c s a b) (qP d 1 + 1) from rfl]
    generalize qsm (fun a => qsm (fun b => qnt d c s a b) (qP d 1 + 1)) a = S0
    rw [show nL S0 = nL (S0 + qsm (fun b => qnt d c s a b) 0) from rfl]
    refine q_for (fun b (g : Int64 → Int32 → pm_M → Option (Int64 × pm_M)) => g (nL (S0 + qsm (fun b => qnt d c s a b) b)) (nI b) M2) (N := qP d 1 + 1) ?_ ?_ (by omega)
    · intro b hb g7
      have hw := States_waysTimes (N := M2) (D := qdd d) (K := qK d) (T := qta d s) (s := s) hp0 hp1 (show a ≤ qP d 0 by omega) (show b ≤ qP d 1 by omega) (t2 a b (by omega) (by omega)) (t3 _ _ (by omega) (by omega))
      have hn : S0 + qsm (fun b => qnt d c s a b) (b + 1) = S0 + qsm (fun b => qnt d c s a b) b + qnt d c s a b := (Nat.add_assoc _ _ _).symm
      rw [hSt2.2.2.1, if_neg (by rw [nI_lt_iff (by omega) (by omega)]; omega), q_jn, hn]
      dsimp only
      rw [hSt2.2.1, hSt2.2.2.1, hw]
      by_cases z : c = 0
      · rw [if_neg (fun w => w ((nI_c0 hc).mpr z)), q_bd, q_lt, q_lt, nI_toL (by omega), nL_mul, nL_add, ← nI_succ]
        unfold qnt
        rw [if_pos z]
      · rw [if_pos (fun w => z ((nI_c0 hc).mp w)), q_bd, q_lt, q_lt, nI_toL (by omega), nL_mul, nL_add, ← nI_succ]
        unfold qnt
        rw [if_neg z]
    · intro g7
      rw [hSt2.2.2.1, if_pos (by rw [nI_lt_iff (by omega) (by omega)]; omega), q_lt, ← nI_succ]
  · intro g3
    rw [hSt2.2.1, if_pos (by rw [nI_lt_iff (by omega) (by omega)]; omega)]
    rfl
theorem R_numberAbove {N : pm_M} {d : qD} (hd : qOK d) (hR : qR N d) (hF : qFa N) (hD : qDm N d) {c s : Nat} (hc : c < 2) (hsS : s < qS d) : ∃ N', sR_numberAbove (nI c) (nI s) N = some (nL (qnm d c s), N') ∧ qfL [62, 63] N N' := by
  have hS := hd.1
  have hp0 := hd.2.2.2.2.2.1 0
  have hp1 := hd.2.2.2.2.2.1 1
  have h88 := hd.2.2.2.2.2.2.1
  obtain ⟨N1, e1, f1, t1⟩ := R_constants hd hR hF hD.1 (qas_at (s := s) (by omega)) (m := qS d) hS
  have hR1 : qR N1 d := qR_1 hR f1.1
  have hF1 : qFa N1 := fun k hk => by rw [f1.2 61 (by decide)]; exact hF k hk
  refine ⟨N1, ?_, f1⟩
  unfold sR_numberAbove
  rw [hR.1, e1, q_bv]
  refine q_for (fun a (g : Int64 → Int32 → pm_M → Option (Int64 × pm_M)) => g (nL (qsm (fun a => qsm (fun b => qnt d c s a b) (qP d 1 + 1)) a)) (nI a) N1) (N := qP d 0 + 1) ?_ ?_ (by omega)
  · intro a ha g3
    rw [hR1.2.2.2.2.1, if_neg (by rw [nI_lt_iff (by omega) (by omega)]; omega)]
    rw [show qsm (fun a => qsm (fun b => qnt d c s a b) (qP d 1 + 1)) (a + 1) = qsm (fun a => qsm (fun b => qnt d c s a b) (qP d 1 + 1)) a + qsm (fun b => qnt d c s a b) (qP d 1 + 1) from rfl]
    generalize qsm (fun a => qsm (fun b => qnt d c s a b) (qP d 1 + 1)) a = S0
    rw [show nL S0 = nL (S0 + qsm (fun b => qnt d c s a b) 0) from rfl]
    refine q_for (fun b (g : Int64 → Int32 → pm_M → Option (Int64 × pm_M)) => g (nL (S0 + qsm (fun b => qnt d c s a b) b)) (nI b) N1) (N := qP d 1 + 1) ?_ ?_ (by omega)
    · intro b hb g7
      have hn : S0 + qsm (fun b => qnt d c s a b) (b + 1) = S0 + qsm (fun b => qnt d c s a b) b + qnt d c s a b := (Nat.add_assoc _ _ _).symm
      have hta : qTR N1 (qta d s) := t1
      rw [hR1.2.2.2.2.1, if_neg (by rw [nI_lt_iff (by omega) (by omega)]; omega), hR1.2.2.2.2.1, nI_sub (by omega), nI_sub (by omega), R_whole hta (by omega) (by omega) (by omega), q_bd, hn]
      by_cases z : nL (qta d s (qP d 0 - a) (qP d 1 - b)) = 0
      · have zw : nL (qnt d c s a b) = 0 := by
          unfold qnt
          exact nL_mul0 (nL_mul0 z)
        rw [if_pos ((cmp_eq _ _).mpr z), q_lt, ← nI_succ, ← nL_add _ (qnt d c s a b), zw, Int64.add_zero]
      · rw [if_neg (fun w => z ((cmp_eq _ _).mp w)), q_jn]
        dsimp only
        have main : ∀ q : Nat, q < 2 ^ 31 → q = (if c = 0 then a else b) → (pm_bd (sR_choose (N1.1 53 0) (nI a) N1) fun v18 M17 => pm_bd (sR_choose (M17.1 53 1) (nI b) M17) fun v20 M19 => pm_bd (sR_heap (nI s) (nI a) (nI b) M19) fun v22 M21 => pm_lt (nL (S0 + qsm (fun b => qnt d c s a b) b) + ((((nI q).toInt64 * v18) * v20) * v22) * nL (qta d s (qP d 0 - a) (qP d 1 - b))) fun x23 => pm_lt (nI b + (1 : Int32)) fun x24 => g7 x23 x24 M21) = g7 (nL (S0 + qsm (fun b => qnt d c s a b) b + qnt d c s a b)) (nI (b + 1)) N1 := by
          intro q hq hqq
          have e : qnt d c s a b = q * qch (qP d 0) a * qch (qP d 1) b * qhp (qdd d) (qK d) s a b * qta d s (qP d 0 - a) (qP d 1 - b) := by
            unfold qnt qws2
            rw [← hqq]
            ac_rfl
          rw [hR1.2.2.2.2.1, R_choose hF1 (by omega) (by omega), q_bd, hR1.2.2.2.2.1, R_choose hF1 (by omega) (by omega), q_bd, R_heap hd hR1 hF1 (D := qdd d) (by omega) (fun c' hc' => by rw [f1.2 60 (by decide)]; exact hD.1 c' s hc' (by omega)) (by omega), q_bd, q_lt, q_lt, nI_toL hq, nL_mul, nL_mul, nL_mul, nL_mul, nL_add, ← nI_succ, e]
        by_cases y : c = 0
        · rw [if_neg (fun w => w ((nI_c0 hc).mpr y))]
          exact main a (by omega) (by rw [if_pos y])
        · rw [if_pos (fun w => y ((nI_c0 hc).mp w))]
          exact main b (by omega) (by rw [if_neg y])
    · intro g7
      rw [hR1.2.2.2.2.1, if_pos (by rw [nI_lt_iff (by omega) (by omega)]; omega), q_lt, ← nI_succ]
  · intro g3
    rw [hR1.2.2.2.2.1, if_pos (by rw [nI_lt_iff (by omega) (by omega)]; omega)]
    rfl
theorem States_rateAbove {M : pm_M} {d : qD} (hd : qOK d) (hSt : qSt M d (qdd d)) {c : Nat} (hc : c < 2) : ∃ M', sStates_rateAbove (nI c) M = some (nL (qra (qtb d) c (qP d 0) (qP d 1)), M') ∧ qfL [26, 27] M M' := by
  obtain ⟨M', e, f, st, t⟩ := States_fill hd hSt
  refine ⟨M', ?_, f⟩
  unfold sStates_rateAbove
  rw [e, q_bv, st.2.1, st.2.2.1, States_oneLess hc (hd.2.2.2.2.2.1 0) (hd.2.2.2.2.2.1 1) t, q_bd]
theorem qnm_0 {d : qD} {c s : Nat} (hc : c < 2) (h : qP d c = 0) : qnm d c s = 0 := by
  have z : ∀ n, qsm (fun _ => 0) n = 0 := fun n => by
    induction n with
    | zero => rfl
    | succ n ih => show qsm (fun _ => 0) n + 0 = 0; rw [ih]
  have h1 : ∀ a, a < qP d 0 + 1 → qsm (fun b => qnt d c s a b) (qP d 1 + 1) = 0 := by
    intro a ha
    rw [qsm_cg (g := fun _ => 0) _ (fun b hb => ?_), z]
    unfold qnt
    rcases (show c = 0 ∨ c = 1 by omega) with rfl | rfl
    · rw [if_pos rfl, show a = 0 by omega, Nat.zero_mul]
    · rw [if_neg (by decide), show b = 0 by omega, Nat.zero_mul]
  unfold qnm
  rw [qsm_cg (g := fun _ => 0) _ h1, z]
theorem qvi_20 {d : qD} (hd : qOK d) (hs : qsnd d) {c : Nat} (hc : c < 2) (hp : qP d c ≠ 0) {s : Nat} (hsS : s < qS d) : qvi d c s ≤ 20 := by
  have h1 := qdd_20 hd hs c s hc
  unfold qdd at h1
  rw [if_neg hp] at h1
  have h2 := qtm_1 hd hc hsS
  have h3 : qvi d c s * 1 ≤ qvi d c s * qtm d c s := Nat.mul_le_mul_left _ h2
  unfold qde at h1
  omega
theorem P_mean {M : pm_M} {d : qD} (h : qNet M d) (a1 a2 a3 a4 : Int32) : qPur (sC_mean a1 a2 a3 a4) (sR_mean a1 a2 a3 a4) M := by
  obtain ⟨hd, hC, hR, hT, hSt, hF⟩ := id h
  have hS := hd.1
  by_cases i1 : pm_in a1 2
  case neg =>
    refine ⟨qNO, M, M, ?_, ?_, qScr_rf⟩
    · unfold sC_mean
      rw [C_isClass, q_bd, b2i_f i1, if_pos rfl]
      rfl
    · unfold sR_mean
      rw [R_isPart, q_bd, b2i_f i1, if_pos rfl]
      rfl
  by_cases i2 : pm_in a2 (qS d)
  case neg =>
    refine ⟨qNO, M, M, ?_, ?_, qScr_rf⟩
    · unfold sC_mean
      rw [C_isClass, q_bd, b2i_t i1, if_neg (by decide), Net_hasStation hd hC, q_bd, b2i_f i2, if_pos rfl]
      rfl
    · unfold sR_mean
      rw [R_isPart, q_bd, b2i_t i1, if_neg (by decide), R_isStation hd hR, q_bd, b2i_f i2, if_pos rfl]
      rfl
  by_cases i3 : pm_in a3 3
  case neg =>
    refine ⟨qNO, M, M, ?_, ?_, qScr_rf⟩
    · unfold sC_mean
      rw [C_isClass, q_bd, b2i_t i1, if_neg (by decide), Net_hasStation hd hC, q_bd, b2i_t i2, if_neg (by decide)]
      by_cases z : a3 < 0
      · rw [if_pos z]; rfl
      · rw [if_neg z, if_pos (show (2 : Int32) < _ from pm_hi (n := 2) (by omega) i3 z)]; rfl
    · unfold sR_mean
      rw [R_isPart, q_bd, b2i_t i1, if_neg (by decide), R_isStation hd hR, q_bd, b2i_t i2, if_neg (by decide), R_in02, q_bd, b2i_f i3, if_pos rfl]
      rfl
  obtain ⟨w, hw, -, rfl⟩ := pm_kx i3
  have g2 : ¬ (2 : Int32) < nI w := pm_lo (n := 2) (by omega) (by omega)
  by_cases i4 : pm_in a4 2
  case neg =>
    refine ⟨qNO, M, M, ?_, ?_, qScr_rf⟩
    · unfold sC_mean
      rw [C_isClass, q_bd, b2i_t i1, if_neg (by decide), Net_hasStation hd hC, q_bd, b2i_t i2, if_neg (by decide), if_neg (nI_nneg (by omega)), if_neg g2, C_isLine, q_bd, b2i_f i4, if_neg (fun q => q rfl)]
      rfl
    · unfold sR_mean
      rw [R_isPart, q_bd, b2i_t i1, if_neg (by decide), R_isStation hd hR, q_bd, b2i_t i2, if_neg (by decide), R_in02, q_bd, b2i_t i3, if_neg (by decide), R_in01, q_bd, b2i_f i4, if_pos rfl]
      rfl
  obtain ⟨c, hc, -, rfl⟩ := pm_kx i1
  obtain ⟨s, hsS, -, rfl⟩ := pm_kx i2
  obtain ⟨l, hl, -, rfl⟩ := pm_kx i4
  have hck : (nI c).toNatClampNeg = c := nI_clamp (by omega)
  have hpc := hd.2.2.2.2.2.1 c
  have pz : nI (qP d c) = 0 ↔ qP d c = 0 := by rw [q0, nI_inj (by omega) (by omega)]
  by_cases hs : qsnd d
  case neg =>
    obtain ⟨N, e, f, -, -, -⟩ := R_snd2 h
    refine ⟨qNO, M, N, ?_, ?_, qScr_L f (by decide)⟩
    · unfold sC_mean
      rw [C_isClass, q_bd, b2i_t i1, if_neg (by decide), Net_hasStation hd hC, q_bd, b2i_t i2, if_neg (by decide), if_neg (nI_nneg (by omega)), if_neg g2, C_isLine, q_bd, b2i_t i4, if_pos (by decide), Tours_isSound hT, q_bd, q2i_f hs, if_neg (fun q => q rfl)]
      rfl
    · unfold sR_mean
      rw [R_isPart, q_bd, b2i_t i1, if_neg (by decide), R_isStation hd hR, q_bd, b2i_t i2, if_neg (by decide), R_in02, q_bd, b2i_t i3, if_neg (by decide), R_in01, q_bd, b2i_t i4, if_neg (by decide), e, q_bd, q2i_f hs, if_neg (fun q => q rfl)]
      rfl
  have hb3 := qtb_all hd hs
  have hb2 := qtb_8 hd hs (hd.2.2.2.2.2.1 0) (hd.2.2.2.2.2.1 1) hd.2.2.2.2.2.2.1
  have hbn := qnm_le hd hs c hsS
  have hra := qra_le (qtb_7 hd hs) c (hd.2.2.2.2.2.1 0) (hd.2.2.2.2.2.1 1) hd.2.2.2.2.2.2.1
  let ps : Nat := if qP d c = 0 then 0 else qvi d c s * qra (qtb d) c (qP d 0) (qP d 1)
  have hps : ps ≤ 20 * 12773376000000000 := by
    show (if qP d c = 0 then 0 else _) ≤ _
    by_cases z : qP d c = 0
    · rw [if_pos z]; omega
    · rw [if_neg z]; exact Nat.mul_le_mul (qvi_20 hd hs hc z hsS) hra
  -- what the reference says
  have hRb : ∀ L, qNet L d → ∃ N, qScr L N ∧ sR_mean (nI c) (nI s) (nI w) (nI l) L = some ((if w = 0 then nL (qfrc ps (qtb d (qP d 0) (qP d 1)) l) else if w = 1 then nL (qfrc (qnm d c s) (qtb d (qP d 0) (qP d 1)) l) else if ps = 0 then qNO else nL (qfrc (qnm d c s) ps l)), N) := by
    intro L hL
    obtain ⟨N, e, f, r1, r2, r3⟩ := R_snd2 hL
    have r3 := r3 hs
    obtain ⟨N1, e1, f1⟩ := R_numberAbove hd r1 r2 r3 hc hsS
    have r11 : qR N1 d := qR_1 r1 f1.1
    obtain ⟨N2, e2, f2, t2⟩ := R_ready hd r11 (fun k hk => by rw [f1.2 61 (by decide)]; exact r2 k hk) ⟨fun c' s' hc' hs' => by rw [f1.2 60 (by decide)]; exact r3.1 c' s' hc' hs', fun c' s' hc' hs' hp' => by rw [f1.2 59 (by decide)]; exact r3.2 c' s' hc' hs' hp'⟩
    refine ⟨N2, qScr_tr (qScr_L f (by decide)) (qScr_tr (qScr_L f1 (by decide)) (qScr_L f2 (by decide))), ?_⟩
    unfold sR_mean
    rw [R_isPart, q_bd, b2i_t i1, if_neg (by decide), R_isStation hd hL.2.2.1, q_bd, b2i_t i2, if_neg (by decide), R_in02, q_bd, b2i_t i3, if_neg (by decide), R_in01, q_bd, b2i_t i4, if_neg (by decide), e, q_bd, q2i_t hs, if_pos (by decide), e1, q_bd, r11.1, e2, q_bv, R_wholeAll hd t2, q_bd, if_pos i1, hck, t2.1.2.2.2.2.1]
    refine q_jk (fun o => o = _) (fun (j : Int64 → pm_M → Option (Int64 × pm_M)) => j (nL ps) N2 = some ((if w = 0 then nL (qfrc ps (qtb d (qP d 0) (qP d 1)) l) else if w = 1 then nL (qfrc (qnm d c s) (qtb d (qP d 0) (qP d 1)) l) else if ps = 0 then qNO else nL (qfrc (qnm d c s) ps l)), N2)) ?_ ?_
    · rcases (show w = 0 ∨ w = 1 ∨ w = 2 by omega) with rfl | rfl | rfl
      · rw [if_neg (fun q => q rfl), if_pos rfl, R_part (by omega) (by omega) hb3 hl, q_bd]
      · rw [if_pos (by decide), if_neg (fun q => q rfl), if_neg (by decide), if_pos rfl, R_part (by omega) (by omega) hb3 hl, q_bd]
      · rw [if_pos (by decide), if_pos (by decide), if_neg (show ¬ (2 = 0) by decide), if_neg (show ¬ (2 = 1) by decide)]
        by_cases z : ps = 0
        · rw [if_neg (fun q => q ((cmp_eq _ _).mpr ((nL_0 (by omega)).mpr z))), if_pos z]; rfl
        · rw [if_pos (fun q => z ((nL_0 (by omega)).mp ((cmp_eq _ _).mp q))), if_neg z, R_part (by omega) (by omega) (by omega) hl, q_bd]
    · intro j hj
      by_cases z : qP d c = 0
      · rw [if_neg (fun q => q (pz.mpr z))]
        have : ps = 0 := if_pos z
        rw [← hj, this]
        rfl
      · have hin : pm_in (nI (5 * c + s)) 10 := by rw [nI_in_iff (by omega)]; omega
        have hps2 : ps = qvi d c s * qra (qtb d) c (qP d 0) (qP d 1) := if_neg z
        rw [if_pos (fun q => z (pz.mp q)), qcs, if_pos hin, nI_clamp (by omega), t2.1.2.2.2.2.1, t2.1.2.2.2.2.1, R_rateAbove t2.2.2.2 hc (hd.2.2.2.2.2.1 0) (hd.2.2.2.2.2.1 1) hd.2.2.2.2.2.2.1, q_bd, t2.2.2.1.2 c s hc (by omega) z, nL_mul, ← hps2]
        exact hj
  have hCp : sC_mean (nI c) (nI s) (nI w) (nI l) M = sC_mean (nI c) (nI s) (nI w) (nI l) M := rfl
  conv at hCp => rhs; unfold sC_mean
  rw [C_isClass, q_bd, b2i_t i1, if_neg (by decide), Net_hasStation hd hC, q_bd, b2i_t i2, if_neg (by decide), if_neg (nI_nneg (by omega)), if_neg g2, C_isLine, q_bd, b2i_t i4, if_pos (by decide), Tours_isSound hT, q_bd, q2i_t hs, if_pos (by decide), if_pos i1, hck, hC.2.2.2.2.1, q_lt] at hCp
  by_cases z : qP d c = 0
  · have hps0 : ps = 0 := if_pos z
    have hnm0 := qnm_0 (s := s) hc z
    obtain ⟨N, f, e⟩ := hRb M h
    rw [hps0, hnm0] at e
    rw [if_neg (fun q => q (pz.mpr z))] at hCp
    rcases (show w = 0 ∨ w = 1 ∨ w = 2 by omega) with rfl | rfl | rfl
    · refine ⟨nL (qfrc 0 1 l), M, N, ?_, ?_, f⟩
      · rw [hCp, if_neg (by decide), show (0 : Int64) = nL 0 from rfl, show (1 : Int64) = nL 1 from rfl, C_fraction (by omega) (by omega) (by omega) hl, q_bd]
      · rw [e, if_pos rfl, qfrc_0 hb3]
    · refine ⟨nL (qfrc 0 1 l), M, N, ?_, ?_, f⟩
      · rw [hCp, if_neg (by decide), show (0 : Int64) = nL 0 from rfl, show (1 : Int64) = nL 1 from rfl, C_fraction (by omega) (by omega) (by omega) hl, q_bd]
      · rw [e, if_neg (by decide), if_pos rfl, qfrc_0 hb3]
    · refine ⟨qNO, M, N, ?_, ?_, f⟩
      · rw [hCp, if_pos (by decide)]; rfl
      · rw [e, if_neg (by decide), if_neg (by decide), if_pos rfl]
  · have hps2 : ps = qvi d c s * qra (qtb d) c (qP d 0) (qP d 1) := if_neg z
    obtain ⟨M1, e1, f1⟩ := States_rateAbove hd hSt hc
    have hSt1 := qSt_L hSt f1 (by decide)
    rw [if_pos (fun q => z (pz.mp q)), Tours_visitsOf hT hc hsS hS, q_bd, e1, q_bd, q_lt, nL_mul, ← hps2] at hCp
    have hM1 : qNet M1 d := qNet_scr h (qScr_L f1 (by decide))
    obtain ⟨M2, e2, f2⟩ := States_constantOfAll hd hSt1
    have hM2 : qNet M2 d := qNet_scr hM1 (qScr_L f2 (by decide))
    obtain ⟨M3, e3, f3⟩ := States_numberAbove hd hSt1 hc hsS
    have hM3 : qNet M3 d := qNet_scr hM1 (qScr_L f3 (by decide))
    obtain ⟨M4, e4, f4⟩ := States_constantOfAll hd (qSt_L hSt1 f3 (by decide))
    have hM4 : qNet M4 d := qNet_scr hM3 (qScr_L f4 (by decide))
    rcases (show w = 0 ∨ w = 1 ∨ w = 2 by omega) with rfl | rfl | rfl
    · obtain ⟨N, f, e⟩ := hRb M2 hM2
      refine ⟨nL (qfrc ps (qtb d (qP d 0) (qP d 1)) l), M2, N, ?_, ?_, qScr_tr (qScr_L f1 (by decide)) (qScr_tr (qScr_L f2 (by decide)) f)⟩
      · rw [hCp, if_neg (fun q => q rfl), e2, q_bd, C_fraction (by omega) (by omega) hb3 hl, q_bd]
      · rw [e, if_pos rfl]
    · obtain ⟨N, f, e⟩ := hRb M4 hM4
      refine ⟨nL (qfrc (qnm d c s) (qtb d (qP d 0) (qP d 1)) l), M4, N, ?_, ?_, qScr_tr (qScr_L f1 (by decide)) (qScr_tr (qScr_L f3 (by decide)) (qScr_tr (qScr_L f4 (by decide)) f))⟩
      · rw [hCp, if_pos (by decide), q_jn, if_pos (by decide)]
        dsimp only
        rw [e3, q_bd, q_jn, if_neg (fun q => q rfl), e4, q_bd]
        dsimp only
        rw [C_fraction (by omega) (by omega) hb3 hl, q_bd]
      · rw [e, if_neg (by decide), if_pos rfl]
    · by_cases y : ps = 0
      · obtain ⟨N, f, e⟩ := hRb M1 hM1
        refine ⟨qNO, M1, N, ?_, ?_, qScr_tr (qScr_L f1 (by decide)) f⟩
        · rw [hCp, if_pos (by decide), q_jn, if_neg (fun q => q rfl), if_neg (fun q => q ((cmp_eq _ _).mpr ((nL_0 (by omega)).mpr y)))]
          rfl
        · rw [e, if_neg (by decide), if_neg (by decide), if_pos y]
      · obtain ⟨N, f, e⟩ := hRb M3 hM3
        refine ⟨nL (qfrc (qnm d c s) ps l), M3, N, ?_, ?_, qScr_tr (qScr_L f1 (by decide)) (qScr_tr (qScr_L f3 (by decide)) f)⟩
        · rw [hCp, if_pos (by decide), q_jn, if_neg (fun q => q rfl), if_pos (fun q => y ((nL_0 (by omega)).mp ((cmp_eq _ _).mp q)))]
          dsimp only
          rw [e3, q_bd, q_jn, if_pos (by decide)]
          dsimp only
          rw [C_fraction (by omega) (by omega) (by omega) hl, q_bd]
        · rw [e, if_neg (by decide), if_neg (by decide), if_neg y]
