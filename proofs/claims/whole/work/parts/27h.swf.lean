/-! SWIFT: both sides -/
noncomputable def qsa (d : qD) (c s : Nat) : Nat := qra (qtb (qlo d c s)) c (qP d 0) (qP d 1)
noncomputable def qsb (d : qD) (c s : Nat) : Nat := qtb (qlo d c s) (qP d 0) (qP d 1)
/-- the swiftest of the first n (0: none; else one more), and its rate -/
noncomputable def qsw (d : qD) (c : Nat) : Nat → Nat × Nat × Nat
  | 0 => (0, 0, 1)
  | n + 1 => @ite _ (2 ≤ qtm d c n ∧ ((qsw d c n).1 = 0 ∨ qmr 0 (qsa d c n) (qsb d c n) (qsw d c n).2.1 (qsw d c n).2.2)) (Classical.propDecidable _) (n + 1, qsa d c n, qsb d c n) (qsw d c n)
theorem qsw_t {d : qD} {c n : Nat} (h : 2 ≤ qtm d c n) (h2 : (qsw d c n).1 = 0 ∨ qmr 0 (qsa d c n) (qsb d c n) (qsw d c n).2.1 (qsw d c n).2.2) : qsw d c (n + 1) = (n + 1, qsa d c n, qsb d c n) := if_pos ⟨h, h2⟩
theorem qsw_f {d : qD} {c n : Nat} (h : ¬ (2 ≤ qtm d c n ∧ ((qsw d c n).1 = 0 ∨ qmr 0 (qsa d c n) (qsb d c n) (qsw d c n).2.1 (qsw d c n).2.2))) : qsw d c (n + 1) = qsw d c n := if_neg h
theorem qsw_ok {d : qD} (hd : qOK d) (hs : qsnd d) {c : Nat} (hc : c < 2) : ∀ n, n ≤ qS d → (qsw d c n).1 ≤ n ∧ (qsw d c n).2.1 < 2 ^ 62 ∧ (qsw d c n).2.2 < 2 ^ 62 ∧ 0 < (qsw d c n).2.2
  | 0, _ => ⟨Nat.le_refl 0, by show 0 < 2 ^ 62; omega, by show 1 < 2 ^ 62; omega, by show 0 < 1; omega⟩
  | n + 1, hn => by
    obtain ⟨i1, i2, i3, i4⟩ := qsw_ok hd hs hc n (by omega)
    by_cases h : 2 ≤ qtm d c n ∧ ((qsw d c n).1 = 0 ∨ qmr 0 (qsa d c n) (qsb d c n) (qsw d c n).2.1 (qsw d c n).2.2)
    · rw [qsw_t h.1 h.2]
      have hd' := qlo_ok hd hc (show n < qS d by omega) h.1
      have hs' := qlo_snd hd hs hc (show n < qS d by omega)
      have b1 := qra_le (qtb_7 hd' hs') c (hd'.2.2.2.2.2.1 0) (hd'.2.2.2.2.2.1 1) hd'.2.2.2.2.2.2.1
      have b2 := qtb_8 hd' hs' (hd'.2.2.2.2.2.1 0) (hd'.2.2.2.2.2.1 1) hd'.2.2.2.2.2.2.1
      have b3 := qtb_all hd' hs'
      refine ⟨Nat.le_refl _, Nat.lt_of_le_of_lt b1 (by decide), Nat.lt_of_le_of_lt b2 (by decide), b3⟩
    · rw [qsw_f h]
      exact ⟨by omega, i2, i3, i4⟩
theorem qsab {d : qD} (hd : qOK d) (hs : qsnd d) {c n : Nat} (hc : c < 2) (hn : n < qS d) (h : 2 ≤ qtm d c n) : qsa d c n < 2 ^ 62 ∧ qsb d c n < 2 ^ 62 ∧ 0 < qsb d c n := by
  have hd' := qlo_ok hd hc hn h
  have hs' := qlo_snd hd hs hc hn
  have b1 := qra_le (qtb_7 hd' hs') c (hd'.2.2.2.2.2.1 0) (hd'.2.2.2.2.2.1 1) hd'.2.2.2.2.2.2.1
  have b2 := qtb_8 hd' hs' (hd'.2.2.2.2.2.1 0) (hd'.2.2.2.2.2.1 1) hd'.2.2.2.2.2.2.1
  exact ⟨Nat.lt_of_le_of_lt b1 (by decide), Nat.lt_of_le_of_lt b2 (by decide), qtb_all hd' hs'⟩
/-- what swift may write over beside: the states, loaded anew -/
def qScrS (M M' : pm_M) (d : qD) : Prop := (∀ b, b ∉ 23 :: 24 :: scI → M'.1 b = M.1 b) ∧ (∀ b, b ∉ 25 :: scL → M'.2 b = M.2 b) ∧ qSt M' d (qdd d) ∧ M'.1 23 3 = 0
theorem nin_s1 : ∀ b, b < 23 → b ∉ 23 :: 24 :: scI ∨ b ∈ scI := by decide
theorem P_swiftC {M : pm_M} {d : qD} (hd : qOK d) (hC : qC M d) (hT : qTo M d) (hs : qsnd d) {c : Nat} (hc : c < 2) (hp : qP d c ≠ 0) : ∃ M', sC_swift (nI c) M = some (hI (qsw d c (qS d)).1, M') ∧ (∀ b, b ≠ 23 → b ≠ 24 → M'.1 b = M.1 b) ∧ (∀ b, b ≠ 25 → b ≠ 26 → b ≠ 27 → M'.2 b = M.2 b) ∧ qSt M' d (qdd d) ∧ M'.1 23 3 = 0 := by
  have hS := hd.1
  have hpl := hd.2.2.2.2.2.1 c
  have hin2 : pm_in (nI c) 2 := by rw [nI_in_iff (by omega)]; omega
  unfold sC_swift
  rw [C_isClass, q_bd, b2i_t hin2, if_pos (by decide), Tours_isSound hT, q_bd, q2i_t hs, if_neg (by decide), if_pos hin2, nI_clamp (by omega), hC.2.2.2.2.1, if_pos (by rw [q0, nI_inj (by omega) (by omega)]; exact hp)]
  refine q_fz (fun o => ∃ M', o = some (hI (qsw d c (qS d)).1, M') ∧ (∀ b, b ≠ 23 → b ≠ 24 → M'.1 b = M.1 b) ∧ (∀ b, b ≠ 25 → b ≠ 26 → b ≠ 27 → M'.2 b = M.2 b) ∧ qSt M' d (qdd d) ∧ M'.1 23 3 = 0) (fun i N (g : Int32 → Int64 → Int64 → Int32 → pm_M → Option (Int32 × pm_M)) => g (hI (qsw d c i).1) (nL (qsw d c i).2.1) (nL (qsw d c i).2.2) (nI i) N) (fun i N => (∀ b, b ≠ 23 → b ≠ 24 → N.1 b = M.1 b) ∧ (∀ b, b ≠ 25 → b ≠ 26 → b ≠ 27 → N.2 b = M.2 b)) (qS d) ?_ ?_ (n := 1000000) (by omega) (a := M) ⟨fun _ _ _ => rfl, fun _ _ _ _ => rfl⟩
  · rintro i N hi ⟨n1, n2⟩ g
    have hCN : qC N d := qC_of hC (fun b hb => n1 b (by omega) (by omega))
    have hTN : qTo N d := qTo_of hT (fun b hb hb2 => n1 b (by omega) (by omega)) (fun b hb hb2 => n2 b (by omega) (by omega) (by omega))
    have htl := qtm_le hd c i
    obtain ⟨w1, w2, w3, w4⟩ := qsw_ok hd hs hc i (by omega)
    rw [hCN.1, if_neg (by rw [nI_le_iff (by omega) (by omega)]; omega), Net_timeOf hCN hd hc (by omega), q_bd]
    by_cases h2 : 2 ≤ qtm d c i
    · obtain ⟨N1, e1, f1, f2, st1⟩ := C_hasten hd hCN hTN hs hc hi
      have hd' := qlo_ok hd hc hi h2
      have hs' := qlo_snd hd hs hc hi
      obtain ⟨N2, e2, g2⟩ := States_rateAbove hd' st1 hc
      obtain ⟨N3, e3, g3⟩ := States_constantOfAll hd' (qSt_L st1 g2 (by decide))
      obtain ⟨b1, b2, b3⟩ := qsab hd hs hc hi h2
      have g23 := qfL_tr g2 g3
      have o1 : ∀ b, b ≠ 23 → b ≠ 24 → N3.1 b = M.1 b := fun b hb hb2 => by rw [g23.1, f1 b hb hb2, n1 b hb hb2]
      have o2 : ∀ b, b ≠ 25 → b ≠ 26 → b ≠ 27 → N3.2 b = M.2 b := fun b hb hb2 hb3 => by
        rw [g23.2 b (by simp only [List.mem_cons, List.not_mem_nil, or_false, not_or]; omega), f2 b hb, n2 b hb hb2 hb3]
      rw [if_pos (by rw [q2, nI_le_iff (by omega) (by omega)]; exact h2), e1, q_bv, e2, q_bd, e3, q_bd, q_jn]
      rw [show qra (qtb (qlo d c i)) c (qP (qlo d c i) 0) (qP (qlo d c i) 1) = qsa d c i from rfl, show qtb (qlo d c i) (qP (qlo d c i) 0) (qP (qlo d c i) 1) = qsb d c i from rfl]
      refine ⟨N3, ⟨o1, o2⟩, ?_⟩
      by_cases z : (qsw d c i).1 = 0
      · rw [if_pos ((hI_m1 (by omega)).mpr z)]
        dsimp only
        rw [q_lt, ← nI_succ, qsw_t h2 (Or.inl z)]
        rfl
      · obtain ⟨x, ex, hx⟩ := C_compare b1 b2 w2 w3 b3 w4 N3
        rw [if_neg (fun q => z ((hI_m1 (by omega)).mp q)), ex, q_bd]
        by_cases y : qmr 0 (qsa d c i) (qsb d c i) (qsw d c i).2.1 (qsw d c i).2.2
        · rw [if_neg (fun q => hx.mp q y)]
          dsimp only
          rw [q_lt, ← nI_succ, qsw_t h2 (Or.inr y)]
          rfl
        · rw [if_pos (hx.mpr y), q_lt, ← nI_succ, qsw_f (fun q => q.2.elim z y)]
    · rw [if_neg (by rw [q2, nI_le_iff (by omega) (by omega)]; exact h2), q_lt, ← nI_succ]
      exact ⟨N, ⟨n1, n2⟩, by rw [qsw_f (fun q => h2 q.1)]⟩
  · rintro N ⟨n1, n2⟩ g
    have hCN : qC N d := qC_of hC (fun b hb => n1 b (by omega) (by omega))
    have hTN : qTo N d := qTo_of hT (fun b hb hb2 => n1 b (by omega) (by omega)) (fun b hb hb2 => n2 b (by omega) (by omega) (by omega))
    obtain ⟨N1, e1, f1, f2, f3, f4⟩ := States_load hd hCN hTN
    rw [hCN.1, if_pos (Int32.le_refl _), e1, q_bv]
    exact ⟨N1, rfl, fun b hb hb2 => by rw [f1 b hb hb2, n1 b hb hb2], fun b hb hb2 hb3 => by rw [f2 b hb, n2 b hb hb2 hb3], f4, f3⟩
theorem upd_back (f : Nat → Int32) (k : Nat) (x y : Int32) (h : y = f k) : upd (upd f k x) k y = f := by
  funext j
  unfold upd
  by_cases q : j = k
  · rw [if_pos q, q, h]
  · rw [if_neg q, if_neg q]
theorem P_swiftR {M : pm_M} {d : qD} (h : qNet M d) (hs : qsnd d) {c : Nat} (hc : c < 2) (hp : qP d c ≠ 0) : ∃ M', sR_swift (nI c) M = some (hI (qsw d c (qS d)).1, M') ∧ qfL [59, 60, 62, 63] M M' := by
  have hd := h.1
  have hR := h.2.2.1
  have hF := h.2.2.2.2.2
  have hS := hd.1
  have hpl := hd.2.2.2.2.2.1 c
  have hin2 : pm_in (nI c) 2 := by rw [nI_in_iff (by omega)]; omega
  obtain ⟨N0, e0, f0, -, -, -⟩ := R_snd2 h
  unfold sR_swift
  rw [R_isPart, q_bd, b2i_t hin2, if_pos (by decide), if_pos hin2, nI_clamp (by omega), hR.2.2.2.2.1, if_neg (by rw [q0, nI_inj (by omega) (by omega)]; exact hp), e0, q_bd, q2i_t hs, if_pos (by decide)]
  refine q_fz (fun o => ∃ M', o = some (hI (qsw d c (qS d)).1, M') ∧ qfL [59, 60, 62, 63] M M') (fun i N (g : Int32 → Int64 → Int64 → Int32 → pm_M → Option (Int32 × pm_M)) => g (hI (qsw d c i).1) (nL (qsw d c i).2.1) (nL (qsw d c i).2.2) (nI i) N) (fun i N => qfL [59, 60, 62, 63] M N) (qS d) ?_ ?_ (n := 1000000) (by omega) (a := N0) (qfL_sub f0 (by decide))
  · rintro i N hi f g
    have hRN : qR N d := qR_1 hR f.1
    have hFN : qFa N := fun k hk => by rw [f.2 61 (by decide)]; exact hF k hk
    have htl := qtm_le hd c i
    have hK := hd.2.1 i
    have hin5 : pm_in (nI i) 5 := by rw [nI_in_iff (by omega)]; omega
    obtain ⟨w1, w2, w3, w4⟩ := qsw_ok hd hs hc i (by omega)
    have hk10 : qlk d c i < 10 := by unfold qlk; split <;> omega
    have hink : pm_in (nI (qlk d c i)) 10 := by rw [nI_in_iff (by omega)]; exact hk10
    have hckk : (nI (qlk d c i)).toNatClampNeg = qlk d c i := nI_clamp (by omega)
    have hkt : qT d (qlk d c i) = qtm d c i := by
      unfold qlk qtm
      by_cases k : qK d i = 0
      · rw [if_pos k, if_pos k]
      · rw [if_neg k, if_neg k]
    have hk0 : nI (qK d i) = 0 ↔ qK d i = 0 := by rw [q0, nI_inj (by omega) (by omega)]
    rw [hRN.1, if_neg (by rw [nI_le_iff (by omega) (by omega)]; omega), if_pos hin5, nI_clamp (n := i) (by omega), hRN.2.1, qcs]
    let Y : Option (Int32 × pm_M) → Prop := fun o => ∃ a', qfL [59, 60, 62, 63] M a' ∧ o = g (hI (qsw d c (i + 1)).1) (nL (qsw d c (i + 1)).2.1) (nL (qsw d c (i + 1)).2.2) (nI (i + 1)) a'
    refine q_jk Y (fun (j11 : Int32 → pm_M → Option (Int32 × pm_M)) => Y (j11 (nI (qlk d c i)) N)) ?_ ?_
    · simp only [eq_true hink, hckk, if_true]
      rw [hRN.2.2.1, hkt]
      by_cases h2 : 2 ≤ qtm d c i
      · have hd' := qlo_ok hd hc hi h2
        have hs' := qlo_snd hd hs hc hi
        obtain ⟨b1, b2, b3⟩ := qsab hd hs hc hi h2
        have em : nI (qtm d c i) - (1 : Int32) = nI (qtm d c i - 1) := by rw [q1, nI_sub (by omega)]
        rw [if_pos (by rw [q2, nI_le_iff (by omega) (by omega)]; exact h2), q_lt, em, sI_u]
        generalize hM14 : mu_I N 51 (upd (N.1 51) (qlk d c i) (nI (qtm d c i - 1))) = M14
        have hR14 : qR M14 (qlo d c i) := by
          rw [← hM14]
          refine ⟨hRN.1, hRN.2.1, fun k => ?_, hRN.2.2.2.1, hRN.2.2.2.2.1, hRN.2.2.2.2.2⟩
          rw [uI_a]
          show upd (N.1 51) (qlk d c i) (nI (qtm d c i - 1)) k = nI (if k = qlk d c i then qT d k - 1 else qT d k)
          unfold upd
          by_cases q : k = qlk d c i
          · rw [if_pos q, if_pos q, q, hkt]
          · rw [if_neg q, if_neg q]
            exact hRN.2.2.1 k
        obtain ⟨M15, e15, f15, g15, k15⟩ := R_isSound hd' hR14
        have k15 := k15 hs'
        have hR15 : qR M15 (qlo d c i) := qR_1 hR14 f15
        have h14L : M14.2 = N.2 := by rw [← hM14]; rfl
        have hF15 : qFa M15 := fun k hk => by rw [g15 61 (by decide) (by decide), h14L]; exact hFN k hk
        obtain ⟨M17, e17, f17, t17⟩ := R_ready hd' hR15 hF15 k15
        rw [e15, q_bd, hR15.1, e17, q_bv, q_lt, sI_u]
        have h51 : M17.1 51 = upd (N.1 51) (qlk d c i) (nI (qtm d c i - 1)) := by rw [f17.1, f15, ← hM14, uI_a]
        have hback : upd (M17.1 51) (qlk d c i) (M17.1 51 (qlk d c i) + (1 : Int32)) = N.1 51 := by
          rw [h51]
          refine upd_back _ _ _ _ ?_
          rw [upd_at, ← nI_succ, show qtm d c i - 1 + 1 = qtm d c i by omega, hRN.2.2.1, hkt]
        rw [hback]
        generalize hM18 : mu_I M17 51 (N.1 51) = M18
        have h18 : M18.1 = N.1 := by
          rw [← hM18]
          funext b
          by_cases q : b = 51
          · rw [q, uI_a]
          · rw [uI_0 _ _ _ _ q, f17.1, f15, ← hM14, uI_0 _ _ _ _ q]
        have h18L : M18.2 = M17.2 := by rw [← hM18]; rfl
        have t18 : qTR M18 (qtb (qlo d c i)) := fun p q hp hq hpq => by rw [h18L]; exact t17.2.2.2 p q hp hq hpq
        have hR18 : qR M18 d := qR_1 hRN h18
        have f18 : qfL [59, 60, 62, 63] M M18 := ⟨by rw [h18, f.1], fun b hb => by
          simp only [List.mem_cons, List.not_mem_nil, or_false, not_or] at hb
          rw [h18L, f17.2 b (by simp only [List.mem_cons, List.not_mem_nil, or_false, not_or]; omega), g15 b (by omega) (by omega), h14L, f.2 b (by simp only [List.mem_cons, List.not_mem_nil, or_false, not_or]; omega)]⟩
        rw [hR18.2.2.2.2.1, hR18.2.2.2.2.1, R_rateAbove t18 hc (hd.2.2.2.2.2.1 0) (hd.2.2.2.2.2.1 1) hd.2.2.2.2.2.2.1, q_bd, hR18.2.2.2.2.1, hR18.2.2.2.2.1, R_whole t18 (hd.2.2.2.2.2.1 0) (hd.2.2.2.2.2.1 1) hd.2.2.2.2.2.2.1, q_bd, q_jn]
        rw [show qra (qtb (qlo d c i)) c (qP d 0) (qP d 1) = qsa d c i from rfl, show qtb (qlo d c i) (qP d 0) (qP d 1) = qsb d c i from rfl]
        refine ⟨M18, f18, ?_⟩
        have e11 : nI i + (1 : Int32) = nI (i + 1) := qI_add i 1
        by_cases z : (qsw d c i).1 = 0
        · rw [if_pos ((hI_m1 (by omega)).mpr z)]
          dsimp only
          rw [q_lt, e11, qsw_t h2 (Or.inl z)]
          rfl
        · rw [if_neg (fun q => z ((hI_m1 (by omega)).mp q)), R_isMore b1 b2 w2 w3 b3 w4, q_bd]
          by_cases y : qmr 0 (qsa d c i) (qsb d c i) (qsw d c i).2.1 (qsw d c i).2.2
          · rw [q2i_t y, if_pos (by decide)]
            dsimp only
            rw [q_lt, e11, qsw_t h2 (Or.inr y)]
            rfl
          · rw [q2i_f y, if_neg (fun q => q rfl), q_lt, e11, qsw_f (fun q => q.2.elim z y)]
      · rw [if_neg (by rw [q2, nI_le_iff (by omega) (by omega)]; exact h2), q_lt, ← nI_succ]
        exact ⟨N, f, by rw [qsw_f (fun q => h2 q.1)]⟩
    · intro j11 hj
      by_cases k : qK d i = 0
      · rw [if_neg (fun z => z (hk0.mpr k))]
        have : qlk d c i = i := if_pos k
        rw [this] at hj
        exact hj
      · rw [if_pos (fun z => k (hk0.mp z))]
        have : qlk d c i = 5 * c + i := if_neg k
        rw [this] at hj
        exact hj
  · rintro N f g
    have hRN : qR N d := qR_1 hR f.1
    rw [hRN.1, if_pos (Int32.le_refl _)]
    exact ⟨N, rfl, f⟩
theorem P_swift {M : pm_M} {d : qD} (h : qNet M d) (a1 : Int32) : ∃ v M1 M2, sC_swift a1 M = some (v, M1) ∧ sR_swift a1 M1 = some (v, M2) ∧ (qScr M M2 ∨ qScrS M M2 d) := by
  obtain ⟨hd, hC, hR, hT, hSt, hF⟩ := id h
  by_cases i1 : pm_in a1 2
  case neg =>
    refine ⟨-2, M, M, ?_, ?_, Or.inl qScr_rf⟩
    · unfold sC_swift
      rw [C_isClass, q_bd, b2i_f i1, if_neg (fun q => q rfl)]
    · unfold sR_swift
      rw [R_isPart, q_bd, b2i_f i1, if_neg (fun q => q rfl)]
  obtain ⟨c, hc, -, rfl⟩ := pm_kx i1
  have hpl := hd.2.2.2.2.2.1 c
  by_cases hp : qP d c = 0
  · refine ⟨-3, M, M, ?_, ?_, Or.inl qScr_rf⟩
    · unfold sC_swift
      rw [C_isClass, q_bd, b2i_t i1, if_pos (by decide), Tours_isSound hT, q_bd]
      by_cases hs : qsnd d
      · rw [q2i_t hs, if_neg (by decide), if_pos i1, nI_clamp (by omega), hC.2.2.2.2.1, hp, if_neg (fun q => q rfl)]
      · rw [q2i_f hs, if_pos rfl]
    · unfold sR_swift
      rw [R_isPart, q_bd, b2i_t i1, if_pos (by decide), if_pos i1, nI_clamp (by omega), hR.2.2.2.2.1, hp, if_pos (show nI 0 = 0 from rfl)]
  by_cases hs : qsnd d
  case neg =>
    obtain ⟨N, e, f, -, -, -⟩ := R_snd2 h
    refine ⟨-3, M, N, ?_, ?_, Or.inl (qScr_L f (by decide))⟩
    · unfold sC_swift
      rw [C_isClass, q_bd, b2i_t i1, if_pos (by decide), Tours_isSound hT, q_bd, q2i_f hs, if_pos rfl]
    · unfold sR_swift
      rw [R_isPart, q_bd, b2i_t i1, if_pos (by decide), if_pos i1, nI_clamp (by omega), hR.2.2.2.2.1, if_neg (by rw [q0, nI_inj (by omega) (by omega)]; exact hp), e, q_bd, q2i_f hs, if_neg (fun q => q rfl)]
  obtain ⟨M1, e1, f1, f2, st, k0⟩ := P_swiftC hd hC hT hs hc hp
  have hN1 : qNet M1 d := ⟨hd, qC_of hC (fun b hb => f1 b (by omega) (by omega)), qR_of hR (by rw [f1 49 (by decide) (by decide)]) (fun b hb hb2 => f1 b (by omega) (by omega)), qTo_of hT (fun b hb hb2 => f1 b (by omega) (by omega)) (fun b hb hb2 => f2 b (by omega) (by omega) (by omega)), st, fun k hk => by rw [f2 61 (by decide) (by decide) (by decide)]; exact hF k hk⟩
  obtain ⟨M2, e2, g2⟩ := P_swiftR hN1 hs hc hp
  refine ⟨_, M1, M2, e1, e2, Or.inr ⟨fun b hb => ?_, fun b hb => ?_, qSt_L st g2 (by decide), by rw [g2.1]; exact k0⟩⟩
  · simp only [List.mem_cons, not_or] at hb
    rw [g2.1, f1 b hb.1 hb.2.1]
  · simp only [List.mem_cons, not_or] at hb
    have h25 := hb.1
    have hb2 := hb.2
    have hl : ∀ x ∈ [59, 60, 62, 63], x ∈ scL := by decide
    rw [g2.2 b (fun q => hb2 (hl b q)), f2 b h25 (fun q => hb2 (by rw [q]; decide)) (fun q => hb2 (by rw [q]; decide))]
