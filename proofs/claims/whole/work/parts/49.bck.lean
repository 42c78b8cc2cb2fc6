/-! BACK -/
theorem take_18 (M : pm_M) : ∃ M', sNet_takeFrom_1_8 M = some M' ∧ (∀ b, b ∉ [1, 2, 3, 4, 5, 6] → M'.1 b = M.1 b) ∧ (∀ b, b ≠ 7 → M'.2 b = M.2 b) ∧ M'.1 1 0 = M.1 8 0 ∧ M'.1 2 = qcy (M.1 9) (M.1 2) 5 ∧ M'.1 3 = qcy (M.1 10) (M.1 3) 10 ∧ M'.1 4 = qcy (M.1 11) (M.1 4) 2 ∧ M'.1 5 = qcy (M.1 12) (M.1 5) 2 ∧ M'.1 6 = qcy (M.1 13) (M.1 6) 50 ∧ M'.2 7 = qcy (M.2 14) (M.2 7) 2 := by
  unfold sNet_takeFrom_1_8
  simp only [q_lt, cI_u, cL_u, sI_u]
  have o : ∀ (X : pm_M) (f : Nat → Int64), (mu_L X 7 f).1 = X.1 := fun _ _ => rfl
  refine ⟨_, rfl, fun b hb => ?_, fun b hb => ?_, ?_, ?_, ?_, ?_, ?_, ?_, ?_⟩
  · simp only [List.mem_cons, List.not_mem_nil, or_false, not_or] at hb
    rw [o, uI_0 _ _ _ _ (by omega), uI_0 _ _ _ _ (by omega), uI_0 _ _ _ _ (by omega), uI_0 _ _ _ _ (by omega), uI_0 _ _ _ _ (by omega), uI_0 _ _ _ _ (by omega)]
  · rw [uL_0 _ _ _ _ hb]; rfl
  · rw [o, uI_0 _ _ _ _ (by omega), uI_0 _ _ _ _ (by omega), uI_0 _ _ _ _ (by omega), uI_0 _ _ _ _ (by omega), uI_0 _ _ _ _ (by omega), uI_a, upd_at]
  · rw [o, uI_0 _ _ _ _ (by omega), uI_0 _ _ _ _ (by omega), uI_0 _ _ _ _ (by omega), uI_0 _ _ _ _ (by omega), uI_a, uI_0 _ _ _ _ (by omega), uI_0 _ _ _ _ (by omega)]
  · rw [o, uI_0 _ _ _ _ (by omega), uI_0 _ _ _ _ (by omega), uI_0 _ _ _ _ (by omega), uI_a, uI_0 _ _ _ _ (by omega), uI_0 _ _ _ _ (by omega), uI_0 _ _ _ _ (by omega), uI_0 _ _ _ _ (by omega)]
  · rw [o, uI_0 _ _ _ _ (by omega), uI_0 _ _ _ _ (by omega), uI_a, uI_0 _ _ _ _ (by omega), uI_0 _ _ _ _ (by omega), uI_0 _ _ _ _ (by omega), uI_0 _ _ _ _ (by omega), uI_0 _ _ _ _ (by omega), uI_0 _ _ _ _ (by omega)]
  · rw [o, uI_0 _ _ _ _ (by omega), uI_a, uI_0 _ _ _ _ (by omega), uI_0 _ _ _ _ (by omega), uI_0 _ _ _ _ (by omega), uI_0 _ _ _ _ (by omega), uI_0 _ _ _ _ (by omega), uI_0 _ _ _ _ (by omega), uI_0 _ _ _ _ (by omega), uI_0 _ _ _ _ (by omega)]
  · rw [o, uI_a, uI_0 _ _ _ _ (by omega), uI_0 _ _ _ _ (by omega), uI_0 _ _ _ _ (by omega), uI_0 _ _ _ _ (by omega), uI_0 _ _ _ _ (by omega), uI_0 _ _ _ _ (by omega), uI_0 _ _ _ _ (by omega), uI_0 _ _ _ _ (by omega), uI_0 _ _ _ _ (by omega), uI_0 _ _ _ _ (by omega)]
  · rw [uL_a]
    rfl
theorem R_back_s {M : pm_M} : ∃ N, (pm_lt (pm_sI M 49 1 ((M.1 49 32))) fun M1 => pm_bv (sR_copies_72_50 (5 : Int32) M1) fun M2 => pm_bv (sR_copies_73_51 (10 : Int32) M2) fun M3 => pm_bv (sR_copies_74_52 (2 : Int32) M3) fun M4 => pm_bv (sR_copies_75_53 (2 : Int32) M4) fun M5 => pm_bv (sR_copies_76_54 (50 : Int32) M5) fun M6 => pm_lt (pm_sL M6 55 0 ((M6.2 77 0))) fun M7 => pm_lt (pm_sL M7 55 1 ((M7.2 77 1))) fun M8 => pm_bv (sR_ends M8) fun M9 => some ((M9.1 49 1), M9)) = (pm_bv (sR_ends N) fun M9 => some ((M9.1 49 1), M9)) ∧ (∀ b, b ∉ [49, 50, 51, 52, 53, 54] → N.1 b = M.1 b) ∧ (∀ k, k ≠ 1 → N.1 49 k = M.1 49 k) ∧ (∀ b, b ≠ 55 → N.2 b = M.2 b) ∧ N.1 49 1 = M.1 49 32 ∧ N.1 50 = qcy (M.1 72) (M.1 50) 5 ∧ N.1 51 = qcy (M.1 73) (M.1 51) 10 ∧ N.1 52 = qcy (M.1 74) (M.1 52) 2 ∧ N.1 53 = qcy (M.1 75) (M.1 53) 2 ∧ N.1 54 = qcy (M.1 76) (M.1 54) 50 ∧ ∀ k, k < 2 → N.2 55 k = M.2 77 k := by
  simp only [q_lt, q_bv, cpy_72_50, cpy_73_51, cpy_74_52, cpy_75_53, cpy_76_54]
  generalize hN : mu_I (mu_I (mu_I (mu_I (mu_I (pm_sI M 49 1 (M.1 49 32)) 50 (qcy ((pm_sI M 49 1 (M.1 49 32)).1 72) ((pm_sI M 49 1 (M.1 49 32)).1 50) 5)) 51 _) 52 _) 53 _) 54 _ = N
  have hk : ∀ b, b ∉ [49, 50, 51, 52, 53, 54] → N.1 b = M.1 b := fun b hb => by
    simp only [List.mem_cons, List.not_mem_nil, or_false, not_or] at hb
    rw [← hN, uI_0 _ _ _ _ (by omega), uI_0 _ _ _ _ (by omega), uI_0 _ _ _ _ (by omega), uI_0 _ _ _ _ (by omega), uI_0 _ _ _ _ (by omega), sI_1, if_neg (by omega)]
  have h49 : N.1 49 = upd (M.1 49) 1 (M.1 49 32) := by
    rw [← hN, uI_0 _ _ _ _ (by omega), uI_0 _ _ _ _ (by omega), uI_0 _ _ _ _ (by omega), uI_0 _ _ _ _ (by omega), uI_0 _ _ _ _ (by omega), sI_1, if_pos rfl]
  have s : ∀ b, b ≠ 49 → (pm_sI M 49 1 (M.1 49 32)).1 b = M.1 b := fun b hb => by rw [sI_1, if_neg hb]
  have h50 : N.1 50 = qcy (M.1 72) (M.1 50) 5 := by
    rw [← hN, uI_0 _ _ _ _ (by omega), uI_0 _ _ _ _ (by omega), uI_0 _ _ _ _ (by omega), uI_0 _ _ _ _ (by omega), uI_a, s 72 (by decide), s 50 (by decide)]
  have h51 : N.1 51 = qcy (M.1 73) (M.1 51) 10 := by
    rw [← hN, uI_0 _ _ _ _ (by omega), uI_0 _ _ _ _ (by omega), uI_0 _ _ _ _ (by omega), uI_a, uI_0 _ _ _ _ (by omega), uI_0 _ _ _ _ (by omega), s 73 (by decide), s 51 (by decide)]
  have h52 : N.1 52 = qcy (M.1 74) (M.1 52) 2 := by
    rw [← hN, uI_0 _ _ _ _ (by omega), uI_0 _ _ _ _ (by omega), uI_a, uI_0 _ _ _ _ (by omega), uI_0 _ _ _ _ (by omega), uI_0 _ _ _ _ (by omega), uI_0 _ _ _ _ (by omega), s 74 (by decide), s 52 (by decide)]
  have h53 : N.1 53 = qcy (M.1 75) (M.1 53) 2 := by
    rw [← hN, uI_0 _ _ _ _ (by omega), uI_a, uI_0 _ _ _ _ (by omega), uI_0 _ _ _ _ (by omega), uI_0 _ _ _ _ (by omega), uI_0 _ _ _ _ (by omega), uI_0 _ _ _ _ (by omega), uI_0 _ _ _ _ (by omega), s 75 (by decide), s 53 (by decide)]
  have h54 : N.1 54 = qcy (M.1 76) (M.1 54) 50 := by
    rw [← hN, uI_a, uI_0 _ _ _ _ (by omega), uI_0 _ _ _ _ (by omega), uI_0 _ _ _ _ (by omega), uI_0 _ _ _ _ (by omega), uI_0 _ _ _ _ (by omega), uI_0 _ _ _ _ (by omega), uI_0 _ _ _ _ (by omega), uI_0 _ _ _ _ (by omega), s 76 (by decide), s 54 (by decide)]
  have h2 : N.2 = M.2 := by rw [← hN]; rfl
  clear hN
  refine ⟨pm_sL (pm_sL N 55 0 (N.2 77 0)) 55 1 ((pm_sL N 55 0 (N.2 77 0)).2 77 1), rfl, hk, fun k h => ?_, fun b hb => ?_, ?_, h50, h51, h52, h53, h54, fun k hk => ?_⟩
  · show N.1 49 k = _
    rw [h49]
    exact if_neg h
  · rw [sL_2, if_neg hb, sL_2, if_neg hb, h2]
  · show N.1 49 1 = _
    rw [h49, upd_at]
  · rw [sL_2, if_pos rfl, sL_2, if_pos rfl, sL_2, if_neg (by decide), h2]
    unfold vp_updL
    rcases (show k = 0 ∨ k = 1 by omega) with rfl | rfl
    · rw [if_neg (by decide), if_pos rfl]
    · rw [if_pos rfl]
def bkd (e d : qD) : qD := (qS e, qcy (qK e) (qK d) 5, qcy (qT e) (qT d) 10, qcy (qH e) (qH d) 2, qcy (qP e) (qP d) 2, qcy (qW e) (qW d) 50)
theorem bkd_ok {e d : qD} (he : qOK e) (hd : qOK d) : qOK (bkd e d) := by
  obtain ⟨a1, a2, a3, a4, a5, a6, a7, a8, a9⟩ := he
  obtain ⟨b1, b2, b3, b4, b5, b6, b7, b8, b9⟩ := hd
  have m : ∀ (f g : Nat → Nat) (n B : Nat), (∀ k, f k ≤ B) → (∀ k, g k ≤ B) → ∀ k, qcy f g n k ≤ B := fun f g n B hf hg k => by
    unfold qcy
    split
    · exact hf k
    · exact hg k
  refine ⟨a1, m _ _ _ _ a2 b2, m _ _ _ _ a3 b3, fun c s hc hs => ?_, fun c hc => ?_, m _ _ _ _ a6 b6, ?_, m _ _ _ _ a8 b8, fun c s t hc hs ht hne => ?_⟩
  · have hs' : s < qS e := hs
    show 1 ≤ qcy (qT e) (qT d) 10 (5 * c + s)
    rw [qcy_at _ _ (by omega)]
    exact a4 c s hc hs'
  · show qcy (qH e) (qH d) 2 c ≤ qS e
    rw [qcy_at _ _ hc]
    exact a5 c hc
  · show qcy (qP e) (qP d) 2 0 + qcy (qP e) (qP d) 2 1 ≤ 8
    rw [qcy_at _ _ (by omega), qcy_at _ _ (by omega)]
    exact a7
  · have hne' : qcy (qW e) (qW d) 50 (25 * c + 5 * s + t) ≠ 0 := hne
    rw [qcy_at _ _ (by omega)] at hne'
    exact a9 c s t hc hs ht hne'
theorem qcy_n {α : Type} {G F : Nat → α} {f g : Nat → Nat} {φ : Nat → α} {n : Nat} (h1 : ∀ k, k < n → G k = φ (f k)) (h2 : ∀ k, F k = φ (g k)) (k : Nat) : qcy G F n k = φ (qcy f g n k) := by
  unfold qcy
  by_cases h : k < n
  · rw [if_pos h, if_pos h, h1 k h]
  · rw [if_neg h, if_neg h, h2 k]
theorem I_back {t : Nat} {M : pm_M} (h : qInv t M) : qBo t sC_back sR_back M := by
  obtain ⟨d, h1, h2, h3, h4, hT, hTp, hSh⟩ := id h
  obtain ⟨hd, hC, hR, hTo, hSt, hF⟩ := id h1
  rcases id h4 with ⟨z1, z2⟩ | ⟨z1, ⟨e, he, hCk, hRk⟩, hp⟩
  · refine ⟨-3, M, M, ?_, ?_, h⟩
    · unfold sC_back
      rw [z1, if_neg (fun q => q rfl)]
    · unfold sR_back
      rw [z2, if_neg (fun q => q rfl)]
  have hd' := bkd_ok he hd
  obtain ⟨M1, e1, c1, c2, c3, c4, c5, c6, c7, c8, c9⟩ := take_18 M
  have hC1 : qC M1 (bkd e d) := ⟨by rw [c3]; exact hCk.1, fun k => by rw [c4]; exact qcy_n (φ := nI) hCk.2.1 hC.2.1 k, fun k => by rw [c5]; exact qcy_n (φ := nI) hCk.2.2.1 hC.2.2.1 k, fun k => by rw [c6]; exact qcy_n (φ := hI) hCk.2.2.2.1 hC.2.2.2.1 k, fun k => by rw [c7]; exact qcy_n (φ := nI) hCk.2.2.2.2.1 hC.2.2.2.2.1 k, fun k => by rw [c8]; exact qcy_n (φ := nI) hCk.2.2.2.2.2 hC.2.2.2.2.2 k⟩
  obtain ⟨M2, e2, c0, d1, d2, d3, d4, d5, d6, d7, d8, d9, d10, d11⟩ := C_told' (M := mu_L M 7 (M1.2 7)) hd' hC1 c1 (by
    funext b
    by_cases q : b = 7
    · rw [q, uL_a]
    · rw [uL_0 _ _ _ _ q, c2 b q])
  have m1 : ∀ b, b ∉ [1, 2, 3, 4, 5, 6, 16, 17, 18, 21, 23, 24, 30, 32, 35] → M2.1 b = M.1 b := d1
  have m2 : ∀ b, b ∉ [7, 19, 20, 22, 25] → M2.2 b = M.2 b := fun b hb => by
    simp only [List.mem_cons, List.not_mem_nil, or_false, not_or] at hb
    rw [d2 b (by simp only [List.mem_cons, List.not_mem_nil, or_false, not_or]; omega), uL_0 _ _ _ _ hb.1]
  have m7 : M2.2 7 = M1.2 7 := by rw [d2 7 (by decide), uL_a]
  obtain ⟨N, e3, n1, n2, n3, n4, n5, n6, n7, n8, n9, n10⟩ := R_back_s (M := M2)
  have hRN : qR N (bkd e d) := ⟨by rw [n4, m1 49 (by decide)]; exact hRk.1, fun k => by rw [n5, m1 72 (by decide), m1 50 (by decide)]; exact qcy_n (φ := nI) hRk.2.1 hR.2.1 k, fun k => by rw [n6, m1 73 (by decide), m1 51 (by decide)]; exact qcy_n (φ := nI) hRk.2.2.1 hR.2.2.1 k, fun k => by rw [n7, m1 74 (by decide), m1 52 (by decide)]; exact qcy_n (φ := hI) hRk.2.2.2.1 hR.2.2.2.1 k, fun k => by rw [n8, m1 75 (by decide), m1 53 (by decide)]; exact qcy_n (φ := nI) hRk.2.2.2.2.1 hR.2.2.2.2.1 k, fun k => by rw [n9, m1 76 (by decide), m1 54 (by decide)]; exact qcy_n (φ := nI) hRk.2.2.2.2.2 hR.2.2.2.2.2 k⟩
  obtain ⟨M3, e4, r0, r1, r2, r3, r4, r5, r6, r7⟩ := R_told' (M := mu_L M2 55 (N.2 55)) hRN n1 n2 (by
    funext b
    by_cases q : b = 55
    · rw [q, uL_a]
    · rw [uL_0 _ _ _ _ q, n3 b q])
  have s1 : ∀ b, b ∉ [49, 50, 51, 52, 53, 54, 66, 69] → M3.1 b = M2.1 b := r1
  have s2 : ∀ b, b ≠ 55 → M3.2 b = M2.2 b := fun b hb => by rw [r2, uL_0 _ _ _ _ hb]
  have s55 : M3.2 55 = N.2 55 := by rw [r2, uL_a]
  have i1 : ∀ b, b ∉ [1, 2, 3, 4, 5, 6, 16, 17, 18, 21, 23, 24, 30, 32, 35, 49, 50, 51, 52, 53, 54, 66, 69] → M3.1 b = M.1 b := fun b hb => by
    simp only [List.mem_cons, List.not_mem_nil, or_false, not_or] at hb
    rw [s1 b (by simp only [List.mem_cons, List.not_mem_nil, or_false, not_or]; omega), m1 b (by simp only [List.mem_cons, List.not_mem_nil, or_false, not_or]; omega)]
  have i2 : ∀ b, b ∉ [7, 19, 20, 22, 25, 55] → M3.2 b = M.2 b := fun b hb => by
    simp only [List.mem_cons, List.not_mem_nil, or_false, not_or] at hb
    rw [s2 b (by omega), m2 b (by simp only [List.mem_cons, List.not_mem_nil, or_false, not_or]; omega)]
  have i3 : ∀ k, k ≠ 1 → k ≠ 22 → k ≠ 23 → M3.1 49 k = M.1 49 k := fun k a b c => by rw [r5 k a b c]; show M2.1 49 k = _; rw [m1 49 (by decide)]
  refine ⟨nI (qS e), M2, M3, ?_, ?_, bkd e d, ⟨hd', qC_of c0 (fun b hb => s1 b (by simp only [List.mem_cons, List.not_mem_nil, or_false, not_or]; omega)), r0, qTo_of d3 (fun b b1 b2 => s1 b (by simp only [List.mem_cons, List.not_mem_nil, or_false, not_or]; omega)) (fun b b1 b2 => s2 b (by omega)), qSt_of d4 (fun k _ => by rw [s1 23 (by decide)]) (s1 24 (by decide)) (s2 25 (by decide)), fun k hk => by rw [i2 61 (by decide)]; exact hF k hk⟩, Or.inl (by rw [s1 23 (by decide)]; exact d5), fun c hc => ?_, qKp_k h4 (i3 32 (by decide) (by decide) (by decide)) (fun b hb => i1 b (by revert b; decide)) (i2 14 (by decide)) (i2 77 (by decide)), ⟨?_, Or.inl ⟨by rw [s1 30 (by decide)]; exact d6, by rw [s1 30 (by decide)]; exact d7, by rw [s1 30 (by decide)]; exact d8, r3, r4, fun k hk => ⟨by rw [s1 32 (by decide)]; exact d10 k hk, r6 k hk⟩, fun k hk => ⟨by rw [s1 35 (by decide)]; exact d11 k hk, r7 k hk⟩⟩⟩, qTp_k hTp (i3 9 (by decide) (by decide) (by decide)) (i1 37 (by decide)) (i1 38 (by decide)) (i1 56 (by decide)), qSh_k hSh (fun b hb => i1 b (by revert b; decide)) (fun b hb => i2 b (by revert b; decide))⟩
  · unfold sC_back
    rw [z1, if_pos (by decide), e1, q_bv, e2, q_bv, c0.1]
    rfl
  · unfold sR_back
    rw [m1 49 (by decide), hRk.1, if_pos (nI_m1 (by have := he.1; omega))]
    rw [← hRk.1, ← m1 49 (by decide)]
    refine e3.trans ?_
    rw [e4, q_bv, r0.1, m1 49 (by decide), hRk.1]
    rfl
  · rw [s2 7 (by decide), m7, c9, qcy_at _ _ hc, s55, n10 c hc, m2 77 (by decide)]
    exact hp c hc
  · rw [s1 30 (by decide), d9 4 (by decide) (by decide) (by decide), i3 28 (by decide) (by decide) (by decide)]
    exact hT.1
