theorem qml_inj : ∀ m, m < 32 → ∀ i, i < (qml m).length → ∀ j, j < (qml m).length → (qml m).getD i 0 = (qml m).getD j 0 → i = j := by decide +kernel
theorem bi_sub_has : ∀ r, r < 32 → ∀ y, y < 5 → ∀ t, t < 5 → qhas (r &&& (31 - 2 ^ y)) t = (qhas r t && !(decide (t = y))) := by decide +kernel
theorem Tours_treesTo {d : qD} {M : pm_M} (hd : qOK d) (h : qC M d) {c y r : Nat} (hc : c < 2) (hy : y < 5) (hr : r < 32) (hre : M.1 17 c = nI r) {m n : Nat} (hm : r &&& (31 - 2 ^ y) = m) (hsub : ∀ j, j < 5 → qhas m j = true → j < qS d) (hn : (qml m).length = n) (hn4 : n ≤ 4) (hp : ∀ k, k ≤ n → qdet (qsub (qen d c) m) k ≠ 0) : ∃ f g, sTours_treesTo (nI c) (nI y) M = some (iL (qdet (qsub (qen d c) m) n), mu_L (mu_I M 21 f) 22 g) := by
  have hS := hd.1
  have hm32 : m < 32 := by rw [← hm]; exact bi_lt_sub r hr _ (bi_pow _ hy)
  have hq5 : qot m (M.1 21) 5 = qot m (M.1 21) (qS d) := by
    have := qot_S m (M.1 21) (S := qS d) (5 - qS d) (fun k hk hb => hsub k (by omega) hb)
    rwa [show qS d + (5 - qS d) = 5 by omega] at this
  have hot := qot_ok m (M.1 21) 5
  rw [hq5] at hot
  have hot1 : (qot m (M.1 21) (qS d)).2 = n := by rw [← hn]; exact hot.1
  have hot2 : ∀ p, p < n → (qot m (M.1 21) (qS d)).1 p = nI ((qml m).getD p 0) := fun p hpn => hot.2 p (by rw [← hn] at hpn; exact hpn)
  have hsl : ∀ p, p < n → (qml m).getD p 0 < 5 := fun p hpn => qml_lt m hm32 p (by omega)
  let b : Nat → Nat → Int := fun i j => -(qw d c ((qml m).getD i 0) ((qml m).getD j 0) : Int)
  generalize hG : qfc (M.2 22) (qsub (qen d c) m) b n n 0 = G
  have hab : ∀ i j, (qsub (qen d c) m i j).natAbs ≤ 45 := fun i j => by
    have := qen_le hd c ((qml m).getD i 0) ((qml m).getD j 0)
    unfold qsub
    omega
  obtain ⟨g, hg⟩ := C_determinant (M := mu_L (mu_I M 21 (qot m (M.1 21) (qS d)).1) 22 G) hab hn4 (fun i j hi hj => by
    show G (5 * i + j) = _
    rw [← hG]
    exact qfc_all _ _ _ hi hj (by omega)) hp
  refine ⟨(qot m (M.1 21) (qS d)).1, g, ?_⟩
  rw [uL_uL] at hg
  rw [← hot1] at hg
  generalize he : (some (iL (qdet (qsub (qen d c) m) n), mu_L (mu_I M 21 (qot m (M.1 21) (qS d)).1) 22 g) : Option (Int64 × pm_M)) = e at hg ⊢
  unfold sTours_treesTo
  generalize hF : M.1 21 = F at *
  rw [show M = mu_I M 21 (qot m F 0).1 by rw [← hF]; exact (uI_self M 21).symm]
  refine q_for (fun t (g : Int32 → Int32 → pm_M → Option (Int64 × pm_M)) => g (nI (qot m F t).2) (nI t) (mu_I M 21 (qot m F t).1)) (N := qS d) ?_ ?_ (by omega)
  · intro t ht g1
    have hle : ¬ nI (qS d) ≤ nI t := by rw [nI_le_iff (by omega) (by omega)]; omega
    have hlt := qot_le m F t
    have hu : qot m F (t + 1) = if qhas m t = true then (upd (qot m F t).1 (qot m F t).2 (nI t), (qot m F t).2 + 1) else qot m F t := rfl
    have hbs := bi_sub_has r hr y hy t (by omega)
    rw [hm] at hbs
    have h10 : (mu_I M 21 (qot m F t).1).1 1 0 = nI (qS d) := h.1
    have h17 : (mu_I M 21 (qot m F t).1).1 17 c = nI r := hre
    have hin2 : pm_in (nI c) 2 := by rw [nI_in_iff (by omega)]; omega
    rw [h10, if_neg hle]
    by_cases hty : t = y
    · have hb : ¬ qhas m t = true := by rw [hbs, decide_eq_true hty]; simp
      rw [if_pos (by rw [hty]), q_lt, hu, if_neg hb, ← nI_succ]
    · rw [if_neg (by rw [nI_inj (by omega) (by omega)]; exact hty), if_pos hin2, nI_clamp (by omega), h17, Tours_hasBit hr (by omega), q_bd]
      have hbq : qhas m t = qhas r t := by rw [hbs, decide_eq_false hty]; simp
      by_cases hb : qhas r t = true
      · rw [if_pos hb, if_neg (by decide), if_pos (by rw [nI_in_iff (by omega)]; omega), q_lt, q_lt, q_lt, hu, hbq, if_pos hb, nI_clamp (by omega), sI_u, uI_uI, ← nI_succ, ← nI_succ]
        rfl
      · rw [if_neg hb, if_pos rfl, q_lt, hu, hbq, if_neg hb, ← nI_succ]
  · intro g1
    have h10 : (mu_I M 21 (qot m F (qS d)).1).1 1 0 = nI (qS d) := h.1
    rw [h10, if_pos (Int32.le_refl _)]
    generalize hf : (qot m F (qS d)).1 = f at *
    rw [hot1]
    have hb0 : mu_I M 21 f = mu_L (mu_I M 21 f) 22 (qfc (M.2 22) (qsub (qen d c) m) b n 0 0) := by rw [qfc_0]; exact (uL_self (mu_I M 21 f) 22).symm
    rw [hb0]
    refine q_for (fun i (g : Int32 → pm_M → Option (Int64 × pm_M)) => g (nI i) (mu_L (mu_I M 21 f) 22 (qfc (M.2 22) (qsub (qen d c) m) b n i 0))) (N := n) ?_ ?_ (by omega)
    · intro i hi g5
      have hle : ¬ nI n ≤ nI i := by rw [nI_le_iff (by omega) (by omega)]; omega
      rw [if_neg hle]
      have hi5 : pm_in (nI i) 5 := by rw [nI_in_iff (by omega)]; omega
      have hfi : f i = nI ((qml m).getD i 0) := hot2 i hi
      refine q_for (fun j (g : Int32 → pm_M → Option (Int64 × pm_M)) => g (nI j) (mu_L (mu_I M 21 f) 22 (qfc (M.2 22) (qsub (qen d c) m) b n i j))) (N := n) ?_ ?_ (by omega)
      · intro j hj g10
        have hle : ¬ nI n ≤ nI j := by rw [nI_le_iff (by omega) (by omega)]; omega
        have hj5 : pm_in (nI j) 5 := by rw [nI_in_iff (by omega)]; omega
        have hfj : f j = nI ((qml m).getD j 0) := hot2 j hj
        have e1 : nI i * 5 + nI j = nI (5 * i + j) := by rw [q5, nI_mul, nI_add]; congr 1; omega
        have h1 : pm_in (nI (5 * i + j)) 25 := by rw [nI_in_iff (by omega)]; omega
        have hw := qw_le hd c ((qml m).getD i 0) ((qml m).getD j 0)
        rw [if_neg hle, if_pos hi5, if_pos hj5, nI_clamp (by omega), nI_clamp (by omega)]
        rw [show (mu_L (mu_I M 21 f) 22 (qfc (M.2 22) (qsub (qen d c) m) b n i j)).1 21 = f from rfl, hfi, hfj, Net_weightOf (qC_u h _ _) hc (hsl i hi) (hsl j hj), q_bd, e1, if_pos h1, nI_clamp (by omega), q_lt, q_lt, neg_w _ (by omega), sL_u, uL_uL, ← nI_succ]
        rw [show (mu_L (mu_I M 21 f) 22 (qfc (M.2 22) (qsub (qen d c) m) b n i j)).2 22 = qfc (M.2 22) (qsub (qen d c) m) b n i j from rfl]
        have := qfc_set (M.2 22) (qsub (qen d c) m) b (i := i) hj (by omega)
        rw [← this]
      · intro g10
        have e1 : nI i * 5 + nI i = nI (5 * i + i) := by rw [q5, nI_mul, nI_add]; congr 1; omega
        have h1 : pm_in (nI (5 * i + i)) 25 := by rw [nI_in_iff (by omega)]; omega
        have hwt := qwt_le hd c ((qml m).getD i 0)
        rw [if_pos (Int32.le_refl _), e1, if_pos h1, if_pos hi5, nI_clamp (n := i) (by omega)]
        rw [show (mu_L (mu_I M 21 f) 22 (qfc (M.2 22) (qsub (qen d c) m) b n i n)).1 21 = f from rfl, hfi, Net_weightsFrom hd (qC_u h _ _) hc (hsl i hi), q_bd, if_pos h1, nI_clamp (n := 5 * i + i) (by omega), q_lt, q_lt, sL_u, uL_uL, ← nI_succ]
        rw [show (mu_L (mu_I M 21 f) 22 (qfc (M.2 22) (qsub (qen d c) m) b n i n)).2 22 = qfc (M.2 22) (qsub (qen d c) m) b n i n from rfl, qfc_at _ _ _ hi (by omega), nI_toL (by omega), ← iL_nat, iL_add]
        have e2 : b i i + (qwt d c ((qml m).getD i 0) : Int) = qsub (qen d c) m i i := by
          show -(_ : Int) + _ = qen d c _ _
          unfold qen
          rw [if_pos rfl]; omega
        rw [e2, qfc_end _ _ _ hi (by omega) ?_]
        intro j hj hji
        show qen d c _ _ = -(_ : Int)
        unfold qen
        rw [if_neg ?_]
        intro q
        exact hji (qml_inj m hm32 i (by omega) j (by omega) q).symm
    · intro g5
      rw [if_pos (Int32.le_refl _), hG]
      rw [hot1] at hg
      rw [hg, q_bd]
      exact he
