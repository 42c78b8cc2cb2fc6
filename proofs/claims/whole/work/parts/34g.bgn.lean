/-! TRUTH BEGINS, each side -/
theorem bgC_in {d : qD} (hd : qOK d) (hs : qsnd d) {M0 M : pm_M} (hC : qC M0 d) {c o : Nat} (hc : c < 2) (ho : o + qP d c ≤ qP d 0 + qP d 1) (hcl : ∀ i, i < qP d c → xcl (qP d 0) (o + i) = c) (h : bgC d M0 o M) (g4 : Int32 → pm_M → Option pm_M) : ∃ M', bgC d M0 (o + qP d c) M' ∧ (fun (x6 : Int32) (M5 : pm_M) => pm_loop (fun _ _ => none) (fun (g7 : Int32 → pm_M → Option (pm_M)) x9 M8 => if pm_in x6 2 then (if (M8.1 5 x6.toNatClampNeg) ≤ x9 then (pm_lt ((x6 + (1 : Int32))) fun x10 => g4 x10 M8) else (if (8 : Int32) ≤ (M8.1 30 1) then (pm_lt ((x6 + (1 : Int32))) fun x11 => g4 x11 M8) else (pm_lt (pm_sI M8 30 1 (((M8.1 30 1) + (1 : Int32)))) fun M12 => if pm_in x6 2 then (pm_bv (sTruth_arrive ((M12.1 30 1) - (1 : Int32)) (M12.1 4 x6.toNatClampNeg) M12) fun M13 => pm_lt ((x9 + (1 : Int32))) fun x14 => g7 x14 M13) else none))) else none) 1000000 (0 : Int32) M5) (nI c) M = g4 (nI (c + 1)) M' := by
  have h8 := hd.2.2.2.2.2.2.1
  have hin2 : pm_in (nI c) 2 := by rw [nI_in_iff (by omega)]; exact hc
  have hck : (nI c).toNatClampNeg = c := nI_cl c (by omega)
  dsimp only
  refine q_fz (fun r => ∃ M', bgC d M0 (o + qP d c) M' ∧ r = g4 (nI (c + 1)) M') (fun i a (g : Int32 → pm_M → Option pm_M) => g (nI i) a) (fun i a => bgC d M0 (o + i) a) (qP d c) ?_ ?_ (n := 1000000) (a := M) (by omega) h
  · intro i a hi ha g
    have e5 : a.1 5 = M0.1 5 := ha.1 5 (by decide)
    have e1 := ha.2.2.2.1
    obtain ⟨M', e, hM'⟩ := bgC_step hd hs hC (show o + i < qP d 0 + qP d 1 by omega) ha
    refine ⟨M', hM', ?_⟩
    have e4 : (pm_sI a 30 1 (nI (o + i + 1))).1 4 c = nI (bhm d (o + i)) := by
      rw [sI_1, if_neg (by decide), ha.1 4 (by decide), hC.2.2.2.1]
      unfold bhm
      have := bhm_in hs (show o + i < qP d 0 + qP d 1 by omega)
      rw [hcl i hi] at this
      rw [hcl i hi, hI_pos (by omega)]
    have e6 : (pm_sI a 30 1 (nI (o + i + 1))).1 30 1 - (1 : Int32) = nI (o + i) := by
      rw [sI_1, if_pos rfl, upd_at, q1, nI_sub (by omega)]
      rfl
    simp only [hck]
    rw [if_pos hin2, e5, hC.2.2.2.2.1, if_neg (by rw [nI_le_iff (by omega) (by omega)]; omega), e1, if_neg (by rw [show (8 : Int32) = nI 8 from rfl, nI_le_iff (by omega) (by omega)]; omega), ← nI_succ, q_lt, if_pos hin2, e6, e4, e, q_bv, q_lt, ← nI_succ]
  · intro a ha g
    have e5 : a.1 5 = M0.1 5 := ha.1 5 (by decide)
    refine ⟨a, ha, ?_⟩
    simp only [hck]
    rw [if_pos hin2, e5, hC.2.2.2.2.1, if_pos (by rw [nI_le_iff (by omega) (by omega)]; omega), q_lt, ← nI_succ]
theorem Truth_begin {d : qD} (hd : qOK d) (hs : qsnd d) {M : pm_M} (hC : qC M d) : ∃ M', sTruth_beginAtHomes M = some M' ∧ bgC d M (qP d 0 + qP d 1) M' := by
  obtain ⟨N, e, f1, f2, f3, f4, f5, f6, f7, f8⟩ := Truth_forget M
  have hN5 : N.1 5 = M.1 5 := f1 5 (by decide) (by decide) (by decide)
  unfold sTruth_beginAtHomes
  rw [e, q_bv, q_lt, q_lt]
  have o : ∀ b, b ≠ 30 → (pm_sI (pm_sI N 30 0 1) 30 2 ((pm_sI N 30 0 1).1 5 0)).1 b = N.1 b := fun b hb => by rw [sI_1, if_neg hb, sI_1, if_neg hb]
  have o2 : (pm_sI (pm_sI N 30 0 1) 30 2 ((pm_sI N 30 0 1).1 5 0)).1 30 = upd (upd (N.1 30) 0 1) 2 (nI (qP d 0)) := by
    rw [sI_1, if_pos rfl, sI_1, if_pos rfl, sI_1, if_neg (by decide), hN5, hC.2.2.2.2.1]
  generalize hK : pm_sI (pm_sI N 30 0 1) 30 2 ((pm_sI N 30 0 1).1 5 0) = K at o o2
  have hK2 : K.2 = N.2 := by rw [← hK]; rfl
  clear hK
  have h0 : bgC d M 0 K := by
    refine ⟨fun b hb => ?_, hK2.trans f2, xbg0_C (fun s hs => by rw [o 32 (by decide)]; exact f7 s hs) (fun k hk => by rw [o 35 (by decide)]; exact f8 k hk) (by rw [o2, upd_at]), ?_, ?_, ?_, ?_⟩
    · simp only [List.mem_cons, List.not_mem_nil, or_false, not_or] at hb
      rw [o b (by omega), f1 b (by omega) (by omega) (by omega)]
    · rw [o2]; exact f4
    · rw [o2]; rfl
    · rw [o2]; exact f5
    · rw [o2]; exact f6 4 (by decide) (by decide) (by decide)
  refine q_fz (fun r => ∃ M', r = some M' ∧ bgC d M (qP d 0 + qP d 1) M') (fun i a (g : Int32 → pm_M → Option pm_M) => g (nI i) a) (fun i a => bgC d M (if i = 0 then 0 else if i = 1 then qP d 0 else qP d 0 + qP d 1) a) 2 ?_ ?_ (n := 1000000) (a := K) (by omega) (by rw [if_pos rfl]; exact h0)
  · intro i a hi ha g
    have hnle : ¬ (2 : Int32) ≤ nI i := by rw [q2, nI_le_iff (by omega) (by omega)]; omega
    rcases (show i = 0 ∨ i = 1 by omega) with rfl | rfl
    · rw [if_pos rfl] at ha
      obtain ⟨M', h1, h2⟩ := bgC_in hd hs hC (c := 0) (o := 0) (by omega) (by omega) (fun i hi => by unfold xcl; rw [if_neg (by omega)]) ha g
      refine ⟨M', by rw [if_neg (by omega), if_pos rfl]; rw [Nat.zero_add] at h1; exact h1, ?_⟩
      rw [if_neg hnle]
      exact h2
    · rw [if_neg (by omega), if_pos rfl] at ha
      obtain ⟨M', h1, h2⟩ := bgC_in hd hs hC (c := 1) (o := qP d 0) (by omega) (by omega) (fun i hi => by unfold xcl; rw [if_pos (by omega)]) ha g
      refine ⟨M', by rw [if_neg (by omega), if_neg (by omega)]; exact h1, ?_⟩
      rw [if_neg hnle]
      exact h2
  · intro a ha g
    rw [if_neg (by omega), if_neg (by omega)] at ha
    rw [if_pos (by decide)]
    exact ⟨a, rfl, ha⟩
theorem R_begin_loop {d : qD} (hd : qOK d) (hs : qsnd d) {M : pm_M} (hR : qR M d) : ∃ M', bgR d M (qP d 0 + qP d 1) M' ∧ (fun M1 => pm_bv (sR_ends M1) fun M3 => pm_lt (pm_sI M3 49 22 (1 : Int32)) fun M4 => pm_loop (fun _ _ => none) (fun (g5 : Int32 → pm_M → Option (Int32 × pm_M)) x7 M6 => if ((M6.1 53 0) + (M6.1 53 1)) ≤ x7 then (some (((M6.1 53 0) + (M6.1 53 1)), M6)) else (pm_bd (sR_classOf x7 M6) fun v9 M8 => if pm_in v9 2 then (pm_bv (sR_comes x7 (M8.1 52 v9.toNatClampNeg) M8) fun M10 => pm_lt ((x7 + (1 : Int32))) fun x11 => g5 x11 M10) else none)) 1000000 (0 : Int32) M4) M = some (nI (qP d 0 + qP d 1), M') := by
  have h8 := hd.2.2.2.2.2.2.1
  obtain ⟨N, e, f1, f2, f3, f4, f5, f6, f7⟩ := R_ends M
  dsimp only
  rw [e, q_bv, q_lt]
  have o : ∀ b, b ≠ 49 → (pm_sI N 49 22 1).1 b = N.1 b := fun b hb => by rw [sI_1, if_neg hb]
  have o2 : (pm_sI N 49 22 1).1 49 = upd (N.1 49) 22 1 := by rw [sI_1, if_pos rfl]
  have h0 : bgR d M 0 (pm_sI N 49 22 1) := by
    refine ⟨fun b hb => ?_, f2, xbg0_R (fun s hs => by rw [o 66 (by decide)]; exact f6 s hs) (fun k hk => by rw [o 69 (by decide)]; exact f7 k hk), ?_, ?_, fun k h1 h2 => ?_⟩
    · simp only [List.mem_cons, List.not_mem_nil, or_false, not_or] at hb
      rw [o b (by omega), f1 b (by simp only [List.mem_cons, List.not_mem_nil, or_false, not_or]; omega)]
    · rw [o2, upd_at]
    · rw [o2]; exact f4
    · rw [o2]
      unfold upd
      rw [if_neg h1]
      exact f5 k h1 h2
  refine q_fz (fun r => ∃ M', bgR d M (qP d 0 + qP d 1) M' ∧ r = some (nI (qP d 0 + qP d 1), M')) (fun i a (g : Int32 → pm_M → Option (Int32 × pm_M)) => g (nI i) a) (fun i a => bgR d M i a) (qP d 0 + qP d 1) ?_ ?_ (n := 1000000) (a := pm_sI N 49 22 1) (by omega) h0
  · intro i a hi ha g
    have hRa : qR a d := qR_of hR (ha.2.2.2.2.2 1 (by decide) (by decide)) (fun b hb hb2 => ha.1 b (by simp only [List.mem_cons, List.not_mem_nil, or_false, not_or]; omega))
    obtain ⟨M', e, hM'⟩ := bgR_step hd hs hR hi ha
    have hx := xcl_2 (qP d 0) i
    refine ⟨M', hM', ?_⟩
    rw [hRa.2.2.2.2.1, hRa.2.2.2.2.1, qI_add, if_neg (by rw [nI_le_iff (by omega) (by omega)]; omega), R_classOf hRa hd (by omega), q_bd, if_pos (by rw [nI_in_iff (by omega)]; exact hx), nI_cl _ (by omega), hRa.2.2.2.1, bhm_in hs hi]
    show pm_bv (sR_comes (nI i) (nI (bhm d i)) a) _ = _
    rw [e, q_bv, q_lt, ← nI_succ]
  · intro a ha g
    have hRa : qR a d := qR_of hR (ha.2.2.2.2.2 1 (by decide) (by decide)) (fun b hb hb2 => ha.1 b (by simp only [List.mem_cons, List.not_mem_nil, or_false, not_or]; omega))
    refine ⟨a, ha, ?_⟩
    rw [hRa.2.2.2.2.1, hRa.2.2.2.2.1, qI_add, if_pos (by rw [nI_le_iff (by omega) (by omega)]; omega)]
theorem I_begin {t : Nat} {M : pm_M} (h : qInv t M) : qBo t sC_begin sR_begin M := by
  obtain ⟨d, h1, h2, h3, h4, h5, h6, h7⟩ := id h
  obtain ⟨hd, hC, hR, hT, hSt, hF⟩ := id h1
  by_cases hs : qsnd d
  case neg =>
    obtain ⟨N, e, f, -, -, -⟩ := R_snd2 h1
    refine ⟨-3, M, N, ?_, ?_, qInv_scr h (qScr_L f (by decide))⟩
    · unfold sC_begin
      rw [Tours_isSound hT, q_bd, q2i_f hs, if_neg (fun q => q rfl)]
    · unfold sR_begin
      rw [e, q_bd, q2i_f hs, if_neg (fun q => q rfl)]
  obtain ⟨M1, e1, c1, c2, c3, c4, c5, c6, c7⟩ := Truth_begin hd hs hC
  have hN1 : qNet M1 d := ⟨hd, qC_of hC (fun b hb => c1 b (by simp only [List.mem_cons, List.not_mem_nil, or_false, not_or]; omega)), qR_of hR (by rw [c1 49 (by decide)]) (fun b b1 b2 => c1 b (by simp only [List.mem_cons, List.not_mem_nil, or_false, not_or]; omega)), qTo_of hT (fun b b1 b2 => c1 b (by simp only [List.mem_cons, List.not_mem_nil, or_false, not_or]; omega)) (fun b b1 b2 => by rw [c2]), qSt_of hSt (fun k hk => by rw [c1 23 (by decide)]) (c1 24 (by decide)) (by rw [c2]), fun k hk => by rw [c2]; exact hF k hk⟩
  obtain ⟨M2, e2, f, r1, r2, -⟩ := R_snd2 hN1
  obtain ⟨M3, g, e3⟩ := R_begin_loop hd hs r1
  obtain ⟨g1, g2, g3, g4, g5, g6⟩ := g
  have k49 : ∀ k, k ≠ 22 → k ≠ 23 → M3.1 49 k = M.1 49 k := fun k a b => by rw [g6 k a b, f.1, c1 49 (by decide)]
  have k1 : ∀ b, b ∉ [30, 31, 32, 33, 34, 35, 49, 66, 67, 68, 69] → M3.1 b = M.1 b := fun b hb => by
    simp only [List.mem_cons, List.not_mem_nil, or_false, not_or] at hb
    rw [g1 b (by simp only [List.mem_cons, List.not_mem_nil, or_false, not_or]; omega), f.1, c1 b (by simp only [List.mem_cons, List.not_mem_nil, or_false, not_or]; omega)]
  have k1' : ∀ b, b ∈ [30, 31, 32, 33, 34, 35] → M3.1 b = M1.1 b := fun b hb => by
    rw [g1 b (by revert b; decide), f.1]
  have k2 : ∀ b, b ∉ [59, 60] → M3.2 b = M.2 b := fun b hb => by rw [g2, f.2 b hb, c2]
  refine ⟨nI (qP d 0 + qP d 1), M1, M3, ?_, ?_, d, ?_, qLk_k h2 (by rw [k1 23 (by decide)]) (k1 29 (by decide)), qPy_k h3 (k2 7 (by decide)) (k2 55 (by decide)), qKp_k h4 (k49 32 (by decide) (by decide)) (fun b hb => k1 b (by revert b; decide)) (k2 14 (by decide)) (k2 77 (by decide)), ?_, qTp_k h6 (k49 9 (by decide) (by decide)) (k1 37 (by decide)) (k1 38 (by decide)) (k1 56 (by decide)), qSh_k h7 (fun b hb => k1 b (by revert b; decide)) (fun b hb => k2 b (by revert b; decide))⟩
  · unfold sC_begin
    rw [Tours_isSound hT, q_bd, q2i_t hs, if_pos (by decide), e1, q_bv, c4]
  · unfold sR_begin
    rw [e2, q_bd, q2i_t hs, if_pos (by decide)]
    exact e3
  · exact ⟨hd, qC_of hC (fun b hb => k1 b (by simp only [List.mem_cons, List.not_mem_nil, or_false, not_or]; omega)), qR_of hR (k49 1 (by decide) (by decide)) (fun b b1 b2 => k1 b (by simp only [List.mem_cons, List.not_mem_nil, or_false, not_or]; omega)), qTo_of hT (fun b b1 b2 => k1 b (by simp only [List.mem_cons, List.not_mem_nil, or_false, not_or]; omega)) (fun b b1 b2 => k2 b (by simp only [List.mem_cons, List.not_mem_nil, or_false, not_or]; omega)), qSt_of hSt (fun k hk => by rw [k1 23 (by decide)]) (k1 24 (by decide)) (k2 25 (by decide)), fun k hk => by rw [k2 61 (by decide)]; exact hF k hk⟩
  · refine ⟨by rw [k1' 30 (by decide), c7, k49 28 (by decide) (by decide)]; exact h5.1, Or.inr ⟨by rw [k1' 30 (by decide)]; exact c5, g4, hs, by rw [k1' 30 (by decide)]; exact c4, by rw [k1' 30 (by decide), c6, g5], xbg d (qP d 0 + qP d 1), xC0_of c3 (fun b hb => k1' b (by revert b; decide)) (by rw [k1' 30 (by decide)]), g3, xbg_V hd hs _ (Nat.le_refl _), ?_, fun k _ => ⟨0, Nat.zero_le _, xbg_P d _ k⟩⟩⟩
    rw [xbg_L, Nat.sub_self]
    rfl
