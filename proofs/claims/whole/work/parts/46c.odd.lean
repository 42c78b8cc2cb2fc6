/-! ODDS: weighed, both sides -/
theorem C_weight {d : qD} {M : pm_M} (hd : qOK d) (hSt : qSt M d (qdd d)) {σ : Nat → Nat} (h48 : ∀ c i, c < 2 → i < qS d → M.1 48 (5 * c + i) = nI (σ (5 * c + i))) (h0 : qsu σ 0 (qS d) = qP d 0) (h1 : qsu σ 1 (qS d) = qP d 1) : sStates_weightOf_23_48 M = some (nL (qwg d σ), M) := by
  have hS := hd.1
  have hP0 := hd.2.2.2.2.2.1 0
  have hP1 := hd.2.2.2.2.2.1 1
  have hP8 := hd.2.2.2.2.2.2.1
  unfold sStates_weightOf_23_48
  rw [q_lt, q_lt, hSt.2.1, hSt.2.2.1]
  refine q_for (fun s (g : Int32 → Int32 → Int64 → Int32 → pm_M → Option (Int64 × pm_M)) => g (nI (qP d 0 - qsu σ 0 s)) (nI (qP d 1 - qsu σ 1 s)) (nL (qpd (fun i => qcc d σ i * qhp (qdd d) (qK d) i (σ i) (σ (5 + i))) s)) (nI s) M) (N := qS d) ?_ ?_ (by omega)
  · intro s hs g
    have s0 : qsu σ 0 (s + 1) = qsu σ 0 s + σ s := by rw [qsu_s, show 5 * 0 + s = s by omega]
    have s1 : qsu σ 1 (s + 1) = qsu σ 1 s + σ (5 + s) := by rw [qsu_s]
    have l0 := qsu_le σ 0 (show s + 1 ≤ qS d by omega)
    have l1 := qsu_le σ 1 (show s + 1 ≤ qS d by omega)
    have e0 : M.1 48 s = nI (σ s) := by have := h48 0 s (by omega) hs; rwa [show 5 * 0 + s = s by omega] at this
    have e1 : M.1 48 (5 + s) = nI (σ (5 + s)) := h48 1 s (by omega) hs
    rw [hSt.1, if_neg (by rw [nI_le_iff (by omega) (by omega)]; omega), if_pos (by rw [nI_in_iff (by omega)]; omega), nI_cl s (by omega), e0, q_lt, show (5 : Int32) + nI s = nI (5 + s) by rw [q5, qI_add], if_pos (by rw [nI_in_iff (by omega)]; omega), nI_cl (5 + s) (by omega), e1, q_lt, C_choose (by omega) (by omega), q_bd, C_choose (by omega) (by omega), q_bd, States_factorOf hd hSt hs (by omega), q_bd, q_lt, q_lt, q_lt, q_lt, nL_mul, nL_mul, nL_mul, nI_sub (by omega), nI_sub (by omega), ← nI_succ, s0, s1, Nat.sub_sub, Nat.sub_sub]
    rfl
  · intro g
    rw [hSt.1, if_pos (Int32.le_refl _), qwg_hp, qpd_mul]
theorem rd_va {d : qD} {F : Nat → Int64} (hS : qS d ≤ 5) (h0 : rdF d F 0) (h1 : rdF d F 1) : qva d (rdS d F) 1 (qS d) := by
  refine ⟨fun i hi => ?_, Nat.le_of_eq h1.2, fun _ => h1.2, fun _ => ⟨fun i hi => ?_, h0.2⟩⟩
  · rcases (h1.1 i hi).2.2 with q | q
    · exact Or.inl q
    · exact Or.inr (Nat.pos_of_ne_zero q)
  · rcases (h0.1 i hi).2.2 with q | q
    · rw [show 5 * 0 + i = i by omega] at q
      exact Or.inl q
    · exact Or.inr (Nat.pos_of_ne_zero q)
theorem I_odds {t : Nat} {M : pm_M} (h : qInv t M) (a b : Int32) : qBo t (sC_odds a b) (sR_odds a b) M := by
  refine qBo_pur h ?_
  obtain ⟨d, h1, h2, h3, h4, h5, h6, h7⟩ := id h
  obtain ⟨hd, hC, hR, hT, hSt, hF⟩ := id h1
  have hS := hd.1
  have hP0 := hd.2.2.2.2.2.1 0
  have hP1 := hd.2.2.2.2.2.1 1
  have hP8 := hd.2.2.2.2.2.2.1
  by_cases i1 : pm_in a 4
  case neg =>
    refine ⟨-4611686018427387904, M, M, ?_, ?_, qScr_rf⟩
    · unfold sC_odds
      rw [C_isSheet, q_bd, b2i_f i1, if_pos rfl]
    · unfold sR_odds
      rw [R_isSheet, q_bd, b2i_f i1, if_pos rfl]
  by_cases i2 : pm_in b 2
  case neg =>
    refine ⟨-4611686018427387904, M, M, ?_, ?_, qScr_rf⟩
    · unfold sC_odds
      rw [C_isSheet, q_bd, b2i_t i1, if_neg (by decide), C_isLine, q_bd, b2i_f i2, if_pos rfl]
    · unfold sR_odds
      rw [R_isSheet, q_bd, b2i_t i1, if_neg (by decide), R_in01, q_bd, b2i_f i2, if_pos rfl]
  by_cases hs : qsnd d
  case neg =>
    obtain ⟨N, e, f, -, -, -⟩ := R_snd2 h1
    refine ⟨-4611686018427387904, M, N, ?_, ?_, qScr_L f (by decide)⟩
    · unfold sC_odds
      rw [C_isSheet, q_bd, b2i_t i1, if_neg (by decide), C_isLine, q_bd, b2i_t i2, if_neg (by decide), Tours_isSound hT, q_bd, q2i_f hs, if_neg (fun q => q rfl)]
    · unfold sR_odds
      rw [R_isSheet, q_bd, b2i_t i1, if_neg (by decide), R_in01, q_bd, b2i_t i2, if_neg (by decide), e, q_bd, q2i_f hs, if_pos rfl]
  obtain ⟨j, hj, -, rfl⟩ := pm_kx i1
  obtain ⟨w, hw, -, rfl⟩ := pm_kx i2
  obtain ⟨n, n1, n2, n3, n4, n5, n6⟩ := h7 j hj
  have hCo : sC_odds (nI j) (nI w) M = gC_odds (40 + 2 * j) (41 + 2 * j) (nI w) M := by
    unfold sC_odds
    rw [C_isSheet, q_bd, b2i_t i1, if_neg (by decide), C_isLine, q_bd, b2i_t i2, if_neg (by decide), Tours_isSound hT, q_bd, q2i_t hs, if_pos (by decide)]
    exact C_odds_g hj (nI w) M
  have hRo : ∀ N, qNet N d → N.1 78 = M.1 78 → ∃ N', qfL [59, 60] N N' ∧ qR N' d ∧ qFa N' ∧ qDm N' d ∧ sR_odds (nI j) (nI w) N = (if M.1 78 j = -1 then some ((-4611686018427387904 : Int64), N') else pm_bd (sR_readsState (nI j) N') fun v8 M7 => if ¬ v8 = 0 then (pm_bv (sR_constants (M7.1 49 1) (-1 : Int32) M7) fun M9 => pm_bd (sR_weight M9) fun v11 M10 => pm_bd (sR_whole (M10.1 53 0) (M10.1 53 1) M10) fun v13 M12 => pm_bd (sR_part v11 v13 (nI w) M12) fun v15 M14 => some (v15, M14)) else (some ((-4611686018427387904 : Int64), M7))) := by
    intro N hN eN
    obtain ⟨N', e, f, r1, r2, r3⟩ := R_snd2 hN
    refine ⟨N', f, r1, r2, r3 hs, ?_⟩
    unfold sR_odds
    rw [R_isSheet, q_bd, b2i_t i1, if_neg (by decide), R_in01, q_bd, b2i_t i2, if_neg (by decide), e, q_bd, q2i_t hs, if_neg (by decide), if_pos i1]
    simp only [nI_cl j (show j < 2 ^ 31 by omega), f.1, eN]
  by_cases m : M.1 78 j = -1
  · obtain ⟨N', f, -, -, -, e⟩ := hRo M h1 rfl
    refine ⟨-4611686018427387904, M, N', ?_, ?_, qScr_L f (by decide)⟩
    · rw [hCo]
      unfold gC_odds gRead
      rw [q_bd, b2i_t (show M.1 (40 + 2 * j) 0 = -1 by rw [n4]; exact m), if_pos (by decide), q_bd, if_neg (fun q => q rfl)]
    · rw [e, if_pos m]
  have m' : ¬ M.1 (40 + 2 * j) 0 = -1 := by rw [n4]; exact m
  obtain ⟨M1, e1, c1, c2, c3⟩ := C_read hd hC hT (show 40 + 2 * j ≠ 48 by omega) (F := fun x => M.2 80 (40 * j + x)) (l := 41 + 2 * j) (fun x hx => n6 x hx) m'
  rw [n2] at e1 c3
  have hScr1 : qScr M M1 := ⟨fun b hb => c2 b (fun q => hb (by rw [q]; decide)), fun b _ => by rw [c1]⟩
  have hN1 := qNet_scr h1 hScr1
  by_cases A : rdA d (fun x => M.2 80 (40 * j + x)) (nI n)
  case neg =>
    obtain ⟨N', f, r1, r2, r3, e⟩ := hRo M1 hN1 (by rw [c2 78 (by decide)])
    obtain ⟨M2, e2, d1, d2, d3⟩ := R_read hd hs r1 r3.1 hj (F := fun x => M.2 80 (40 * j + x)) (fun x hx => by rw [f.2 80 (by decide), c1])
    have e79 : N'.1 79 j = nI n := by rw [f.1, c2 79 (by decide), n3]
    rw [e79] at e2
    refine ⟨-4611686018427387904, M1, M2, ?_, ?_, qScr_tr hScr1 (qScr_tr (qScr_L f (by decide)) ⟨fun b hb => d2 b (fun q => hb (by rw [q]; decide)), fun b _ => by rw [d1]⟩)⟩
    · rw [hCo]
      unfold gC_odds
      rw [e1, q_bd, q2i_f A, if_neg (fun q => q rfl)]
    · rw [e, if_neg m, e2, q_bd, q2i_f A, if_neg (fun q => q rfl)]
  have hva := rd_va hS A.2.1 A.2.2
  have hw62 : qwg d (rdS d (fun x => M.2 80 (40 * j + x))) < 2 ^ 62 := by
    have := qww_le hd hs (by omega) (Nat.le_refl _) hva
    have e : qww d (rdS d (fun x => M.2 80 (40 * j + x))) 1 (qS d) = qwg d (rdS d (fun x => M.2 80 (40 * j + x))) := by
      unfold qww qwg
      rw [if_neg (by decide)]
    omega
  have ht62 := qtb_8 hd hs hP0 hP1 hP8
  have ht0 := qtb_all hd hs
  obtain ⟨M2, e2, f2, -⟩ := States_constantOf hd hN1.2.2.2.2.1 hP0 hP1 hP8 (Nat.le_refl (qS d))
  have hScr2 : qScr M M2 := qScr_tr hScr1 (qScr_L f2 (by decide))
  have hN2 := qNet_scr h1 hScr2
  obtain ⟨N', f, r1, r2, r3, e⟩ := hRo M2 hN2 (by rw [f2.1, c2 78 (by decide)])
  obtain ⟨M3, e3, d1, d2, d3⟩ := R_read hd hs r1 r3.1 hj (F := fun x => M.2 80 (40 * j + x)) (fun x hx => by rw [f.2 80 (by decide), f2.2 80 (by decide), c1])
  have e79 : N'.1 79 j = nI n := by rw [f.1, f2.1, c2 79 (by decide), n3]
  rw [e79] at e3 d3
  have hR3 : qR M3 d := qR_of r1 (by rw [d2 49 (by decide)]) (fun b b1 b2 => d2 b (by omega))
  have hF3 : qFa M3 := fun k hk => by rw [d1]; exact r2 k hk
  obtain ⟨M4, e4, f4, t4⟩ := R_constants hd hR3 hF3 (D := qdd d) (fun c s hc hs => by rw [d1]; exact r3.1 c s hc hs) qas_no hS
  have hR4 : qR M4 d := qR_of hR3 (by rw [f4.1]) (fun b b1 b2 => by rw [f4.1])
  have hF4 : qFa M4 := fun k hk => by rw [f4.2 61 (by decide)]; exact hF3 k hk
  have hwt := R_weight hd hR4 hF4 (fun c s hc hs => by rw [f4.2 60 (by decide), d1]; exact r3.1 c s hc hs) (σ := rdS d (fun x => M.2 80 (40 * j + x))) (fun c i hc hi => by rw [f4.1]; exact d3 A c i hc hi) A.2.1.2 A.2.2.2
  refine ⟨nL (qfrc (qwg d (rdS d (fun x => M.2 80 (40 * j + x)))) (qtb d (qP d 0) (qP d 1)) w), M2, M4, ?_, ?_, qScr_tr hScr2 (qScr_tr (qScr_L f (by decide)) (qScr_tr ⟨fun b hb => d2 b (fun q => hb (by rw [q]; decide)), fun b _ => by rw [d1]⟩ (qScr_L f4 (by decide))))⟩
  · rw [hCo]
    unfold gC_odds
    rw [e1, q_bd, q2i_t A, if_pos (by decide), C_weight hd hN1.2.2.2.2.1 (c3 A) A.2.1.2 A.2.2.2, q_bd, hN1.2.1.2.2.2.2.1, hN1.2.1.2.2.2.2.1, hN1.2.1.1, e2, q_bd]
    show pm_bd (sC_fraction _ (nL (qtb d (qP d 0) (qP d 1))) _ _) _ = _
    rw [C_fraction hw62 (by omega) ht0 hw, q_bd]
  · rw [e, if_neg m, e3, q_bd, q2i_t A, if_pos (by decide), hR3.1, e4, q_bv, hwt, q_bd, hR4.2.2.2.2.1, hR4.2.2.2.2.1, R_whole t4 hP0 hP1 hP8, q_bd]
    show pm_bd (sR_part _ (nL (qtb d (qP d 0) (qP d 1))) _ _) _ = _
    rw [R_part hw62 (by omega) ht0 hw, q_bd]
