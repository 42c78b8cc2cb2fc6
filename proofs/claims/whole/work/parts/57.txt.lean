/-! THE TAPE: text, both sides, the end -/
theorem qInv_tp {t : Nat} {M M' : pm_M} (h : qInv t M) (e1 : ∀ b, b ∉ [37, 49, 57, 58] → M'.1 b = M.1 b) (e2 : M'.2 = M.2) (e3 : ∀ k, k ∉ [9, 10, 11] → M'.1 49 k = M.1 49 k) (h1 : M'.1 37 0 = 0) (h2 : M'.1 49 9 = 0) : qInv t M' := by
  obtain ⟨d, ⟨n1, n2, n3, n4, n5, n6⟩, k2, k3, k4, k5, k6, k7⟩ := h
  exact ⟨d, ⟨n1, qC_of n2 (fun b hb => e1 b (by simp only [List.mem_cons, List.not_mem_nil, or_false, not_or]; omega)), qR_of n3 (e3 1 (by decide)) (fun b b1 b2 => e1 b (by simp only [List.mem_cons, List.not_mem_nil, or_false, not_or]; omega)), qTo_of n4 (fun b b1 b2 => e1 b (by simp only [List.mem_cons, List.not_mem_nil, or_false, not_or]; omega)) (fun b b1 b2 => by rw [e2]), qSt_of n5 (fun k hk => by rw [e1 23 (by decide)]) (e1 24 (by decide)) (by rw [e2]), fun k hk => by rw [e2]; exact n6 k hk⟩, qLk_k k2 (by rw [e1 23 (by decide)]) (e1 29 (by decide)), qPy_k k3 (by rw [e2]) (by rw [e2]), qKp_k k4 (e3 32 (by decide)) (fun b hb => e1 b (by revert b; decide)) (by rw [e2]) (by rw [e2]), qTr_k k5 (fun k hk => e3 k (by revert k; decide)) (fun b hb => e1 b (by revert b; decide)), ⟨0, fun _ => 0, Nat.zero_le _, h1, h2, fun k hk => absurd hk (Nat.not_lt_zero k)⟩, qSh_k k7 (fun b hb => e1 b (by revert b; decide)) (fun b _ => by rw [e2])⟩
theorem C_tpR {M : pm_M} {n : Nat} {b : Nat → Nat} (n60 : n ≤ 60) (nR : M.1 49 9 = nI n) (nb : ∀ k, k < n → b k < 256 ∧ M.1 56 k = nI (b k)) : ∃ a, rfr M a ∧ ((∃ q, q ≤ 60 ∧ tfa b n 61 0 = some q ∧ sR_text M = trE 0 a ∧ a.1 49 10 = nI q) ∨ (tfa b n 61 0 = none ∧ sR_text M = trE 1 a ∧ a.1 49 11 = nI (tst b n 61 0).length ∧ (tst b n 61 0).length ≤ 16 ∧ ∀ i, i < (tst b n 61 0).length → (tst b n 61 0).getD i 0 + tsz (b ((tst b n 61 0).getD i 0)) ≤ n ∧ tsz (b ((tst b n 61 0).getD i 0)) ≠ 0 ∧ rrc a b i ((tst b n 61 0).getD i 0))) := by
  have f0 : rfr M (pm_sI (pm_sI M 49 10 0) 49 11 0) := ⟨fun x x1 x2 x3 => by rw [sI_1, if_neg x1, sI_1, if_neg x1], rfl, fun j j1 j2 => by rw [sI_1, if_pos rfl]; unfold upd; rw [if_neg j2, sI_1, if_pos rfl]; unfold upd; rw [if_neg j1]⟩
  obtain ⟨a, k1, -, -, k4⟩ := tr_all (n := n) (b := b) 61 0 0 1000000 (pm_sI (pm_sI M 49 10 0) 49 11 0) (tpR_k ⟨n60, nR, nb⟩ f0) (by rw [sI_1, if_pos rfl]; unfold upd; rw [if_neg (by decide), sI_1, if_pos rfl]; unfold upd; rw [if_pos rfl]; rfl) (by rw [sI_1, if_pos rfl, upd_at]; rfl) (Nat.zero_le _) (by omega) (by omega) (by omega)
  refine ⟨a, rfr_t f0 k1, ?_⟩
  rcases k4 with ⟨q, q60, q1, q2, q3⟩ | ⟨q1, q2, q3, q4, q5⟩
  · exact Or.inl ⟨q, q60, q1, q2, q3⟩
  · rw [Nat.zero_add] at q3 q4
    refine Or.inr ⟨q1, q2, q3, q4, fun i hi => ?_⟩
    have := q5 i hi
    rw [Nat.zero_add] at this
    exact this
theorem I_text {t : Nat} {M : pm_M} (h : qInv t M) : qBo t sC_text sR_text M := by
  obtain ⟨d, h1, h2, h3, h4, h5, h6, h7⟩ := id h
  obtain ⟨hd, hC, hR, hT, hSt, hF⟩ := id h1
  obtain ⟨n, b, n60, nC, nR, nb⟩ := id h6
  have hc : tpC M n b := ⟨n60, nC, fun k hk => ⟨(nb k hk).1, (nb k hk).2.1⟩⟩
  have hfl := C_fault hc
  cases e : tfa b n 61 0 with
  | some q =>
    rw [e] at hfl
    dsimp only at hfl
    have o : ∀ x, x ≠ 37 → (pm_sI M 37 0 0).1 x = M.1 x := fun x hx => by rw [sI_1, if_neg hx]
    obtain ⟨a, k1, k2⟩ := C_tpR (M := pm_sI M 37 0 0) (b := b) n60 (by rw [o 49 (by decide)]; exact nR) (fun k hk => ⟨(nb k hk).1, by rw [o 56 (by decide)]; exact (nb k hk).2.2⟩)
    rcases k2 with ⟨q', q60, q1, q2, q3⟩ | ⟨q1, -⟩
    · rw [e] at q1
      cases q1
      refine ⟨(-100 : Int32) - nI q, pm_sI M 37 0 0, pm_sI a 49 9 0, ?_, ?_, qInv_tp h (fun b hb => ?_) ?_ (fun k hk => ?_) ?_ ?_⟩
      · rw [tx_loop, hfl, q_bd, if_neg (nI_m1 (by omega)), q_lt]
      · rw [q2, trE_0, q3]
      · simp only [List.mem_cons, List.not_mem_nil, or_false, not_or] at hb
        rw [sI_1, if_neg (by omega), k1.1 b (by omega) (by omega) (by omega), o b (by omega)]
      · show a.2 = M.2
        rw [k1.2.1]
        rfl
      · simp only [List.mem_cons, List.not_mem_nil, or_false, not_or] at hk
        rw [sI_1, if_pos rfl]
        unfold upd
        rw [if_neg hk.1, k1.2.2 k hk.2.1 hk.2.2, o 49 (by decide)]
      · rw [sI_1, if_neg (by decide), k1.1 37 (by decide) (by decide) (by decide), sI_1, if_pos rfl, upd_at]
      · rw [sI_1, if_pos rfl, upd_at]
    · rw [e] at q1
      cases q1
  | none =>
    rw [e] at hfl
    dsimp only at hfl
    obtain ⟨M1, e1, c1, c2, c3⟩ := C_exec 61 0 0 0 1000000 d M hd hC hc e (Nat.le_refl _) (by omega)
    have m49 : M1.1 49 = M.1 49 := by
      rcases c1 with ⟨-, -, rfl⟩ | ⟨-, -, c⟩
      · rfl
      · exact c.2.1 49 (by decide)
    have m56 : M1.1 56 = M.1 56 := by
      rcases c1 with ⟨-, -, rfl⟩ | ⟨-, -, c⟩
      · rfl
      · exact c.2.1 56 (by decide)
    have o : ∀ x, x ≠ 37 → (pm_sI M1 37 0 0).1 x = M1.1 x := fun x hx => by rw [sI_1, if_neg hx]
    obtain ⟨a, k1, k2⟩ := C_tpR (M := pm_sI M1 37 0 0) (b := b) n60 (by rw [o 49 (by decide), m49]; exact nR) (fun k hk => ⟨(nb k hk).1, by rw [o 56 (by decide), m56]; exact (nb k hk).2.2⟩)
    rcases k2 with ⟨q', q60, q1, q2, q3⟩ | ⟨q1, q2, q3, q4, q5⟩
    · rw [e] at q1
      cases q1
    have hCt : sC_text M = some (nI (exl b (tst b n 61 0) d 0).1, pm_sI M1 37 0 0) := by
      rw [tx_loop, hfl, q_bd, if_pos rfl]
      exact e1
    have p1 : ∀ x, x ≠ 37 → x ≠ 49 → x ≠ 57 → x ≠ 58 → (pm_sI a 49 9 0).1 x = M1.1 x := fun x x1 x2 x3 x4 => by rw [sI_1, if_neg x2, k1.1 x x2 x3 x4, o x x1]
    have p49 : ∀ k, k ≠ 9 → k ≠ 10 → k ≠ 11 → (pm_sI a 49 9 0).1 49 k = M.1 49 k := fun k x1 x2 x3 => by
      rw [sI_1, if_pos rfl]
      unfold upd
      rw [if_neg x1, k1.2.2 k x2 x3, o 49 (by decide), m49]
    have p2 : (pm_sI a 49 9 0).2 = M1.2 := by
      show a.2 = _
      rw [k1.2.1]
      rfl
    have mR : ∀ x, 49 < x → x < 55 → M1.1 x = M.1 x := fun x x1 x2 => by
      rcases c1 with ⟨-, -, rfl⟩ | ⟨-, -, c⟩
      · rfl
      · exact c.2.1 x (by simp only [List.mem_cons, List.not_mem_nil, or_false, not_or]; omega)
    have hRA : qR (pm_sI a 49 9 0) d := ⟨by rw [p49 1 (by decide) (by decide) (by decide)]; exact hR.1, by rw [p1 50 (by decide) (by decide) (by decide) (by decide), mR 50 (by decide) (by decide)]; exact hR.2.1, by rw [p1 51 (by decide) (by decide) (by decide) (by decide), mR 51 (by decide) (by decide)]; exact hR.2.2.1, by rw [p1 52 (by decide) (by decide) (by decide) (by decide), mR 52 (by decide) (by decide)]; exact hR.2.2.2.1, by rw [p1 53 (by decide) (by decide) (by decide) (by decide), mR 53 (by decide) (by decide)]; exact hR.2.2.2.2.1, by rw [p1 54 (by decide) (by decide) (by decide) (by decide), mR 54 (by decide) (by decide)]; exact hR.2.2.2.2.2⟩
    obtain ⟨M2, e2, r⟩ := R_exec (n := n) (b := b) (l := tst b n 61 0) hd hRA q4 (by rw [sI_1, if_pos rfl]; unfold upd; rw [if_neg (by decide)]; exact q3) (fun k hk => (nb k hk).1) (fun i hi => by
      obtain ⟨y1, y2, y3⟩ := q5 i hi
      exact ⟨y1, y2, by rw [sI_1, if_neg (by decide)]; exact y3.1, fun j hj => by rw [sI_1, if_neg (by decide)]; exact y3.2 j hj⟩) (fun d0 p hd0 => exs_ok b p hd0)
    have hRt : sR_text (pm_sI M1 37 0 0) = some (nI (exl b (tst b n 61 0) d 0).1, M2) := by
      rw [q2]
      unfold trE
      rw [q_lt, if_pos (by decide)]
      exact e2
    refine ⟨nI (exl b (tst b n 61 0) d 0).1, pm_sI M1 37 0 0, M2, hCt, hRt, ?_⟩
    generalize exl b (tst b n 61 0) d 0 = E at c1 c2 c3 r
    generalize ext b (tst b n 61 0) d = τ at c1 r
    rcases c1 with ⟨y1, y2, y3⟩ | ⟨y1, y2, y3⟩
    · subst y3
      rcases r with ⟨-, -, z3⟩ | ⟨z1, -⟩
      · subst z3
        refine qInv_tp h (fun x hx => ?_) p2 (fun k hk => ?_) ?_ ?_
        · simp only [List.mem_cons, List.not_mem_nil, or_false, not_or] at hx
          exact p1 x (by omega) (by omega) (by omega) (by omega)
        · simp only [List.mem_cons, List.not_mem_nil, or_false, not_or] at hk
          exact p49 k hk.1 hk.2.1 hk.2.2
        · rw [sI_1, if_neg (by decide), k1.1 37 (by decide) (by decide) (by decide), sI_1, if_pos rfl, upd_at]
        · rw [sI_1, if_pos rfl, upd_at]
      · rw [y1] at z1
        cases z1
    · rcases r with ⟨z1, -⟩ | ⟨z1, z2⟩
      · rw [y1] at z1
        cases z1
      obtain ⟨c0, d1, d2, d3, d4, d5, d6, d7, d8, d9, d10, d11⟩ := y3
      obtain ⟨r0, r1, r2, r3, r4, r5, r6, r7⟩ := z2
      have s1 : ∀ x, x ∉ [37, 49, 50, 51, 52, 53, 54, 57, 58, 66, 69] → M2.1 x = M1.1 x := fun x hx => by
        simp only [List.mem_cons, List.not_mem_nil, or_false, not_or] at hx
        rw [r1 x (by simp only [List.mem_cons, List.not_mem_nil, or_false, not_or]; omega), p1 x (by omega) (by omega) (by omega) (by omega)]
      have s2 : M2.2 = M1.2 := by rw [r2, p2]
      have i1 : ∀ x, x ∉ [1, 2, 3, 4, 5, 6, 16, 17, 18, 21, 23, 24, 30, 32, 35, 37, 49, 50, 51, 52, 53, 54, 57, 58, 66, 69] → M2.1 x = M.1 x := fun x hx => by
        simp only [List.mem_cons, List.not_mem_nil, or_false, not_or] at hx
        rw [s1 x (by simp only [List.mem_cons, List.not_mem_nil, or_false, not_or]; omega), d1 x (by simp only [List.mem_cons, List.not_mem_nil, or_false, not_or]; omega)]
      have i2 : ∀ x, x ∉ [19, 20, 22, 25] → M2.2 x = M.2 x := fun x hx => by rw [s2, d2 x hx]
      have i3 : ∀ k, k ≠ 1 → k ≠ 22 → k ≠ 23 → k ≠ 9 → k ≠ 10 → k ≠ 11 → M2.1 49 k = M.1 49 k := fun k x1 x2 x3 x4 x5 x6 => by rw [r5 k x1 x2 x3, p49 k x4 x5 x6]
      refine ⟨E.2, ⟨y2, qC_of c0 (fun x hx => s1 x (by simp only [List.mem_cons, List.not_mem_nil, or_false, not_or]; omega)), r0, qTo_of d3 (fun x x1 x2 => s1 x (by simp only [List.mem_cons, List.not_mem_nil, or_false, not_or]; omega)) (fun x x1 x2 => by rw [s2]), qSt_of d4 (fun k _ => by rw [s1 23 (by decide)]) (s1 24 (by decide)) (by rw [s2]), fun k hk => by rw [i2 61 (by decide)]; exact hF k hk⟩, Or.inl (by rw [s1 23 (by decide)]; exact d5), qPy_k h3 (i2 7 (by decide)) (i2 55 (by decide)), qKp_k h4 (i3 32 (by decide) (by decide) (by decide) (by decide) (by decide) (by decide)) (fun b hb => i1 b (by revert b; decide)) (i2 14 (by decide)) (i2 77 (by decide)), ⟨?_, Or.inl ⟨by rw [s1 30 (by decide)]; exact d6, by rw [s1 30 (by decide)]; exact d7, by rw [s1 30 (by decide)]; exact d8, r3, r4, fun k hk => ⟨by rw [s1 32 (by decide)]; exact d10 k hk, r6 k hk⟩, fun k hk => ⟨by rw [s1 35 (by decide)]; exact d11 k hk, r7 k hk⟩⟩⟩, ⟨0, fun _ => 0, Nat.zero_le _, ?_, ?_, fun k hk => absurd hk (Nat.not_lt_zero k)⟩, qSh_k h7 (fun b hb => i1 b (by revert b; decide)) (fun b hb => i2 b (by revert b; decide))⟩
      · rw [s1 30 (by decide), d9 4 (by decide) (by decide) (by decide), i3 28 (by decide) (by decide) (by decide) (by decide) (by decide) (by decide)]
        exact h5.1
      · rw [r1 37 (by decide), sI_1, if_neg (by decide), k1.1 37 (by decide) (by decide) (by decide), sI_1, if_pos rfl, upd_at]
        rfl
      · rw [r5 9 (by decide) (by decide) (by decide), sI_1, if_pos rfl, upd_at]
        rfl
