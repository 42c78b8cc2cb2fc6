/-! FILM -/
def gC_film (i l : Nat) (M : pm_M) : Option (Int32 × pm_M) := (pm_bv (some (mu_L (pm_sI (pm_sI M i 0 (1 : Int32)) i 1 ((2 : Int32) * (M.1 1 0))) l (qfl (M.2 l) 0 40))) fun M5 => pm_loop (fun _ _ => none) (fun (g6 : Int32 → pm_M → Option (Int32 × pm_M)) x8 M7 => if (2 : Int32) ≤ x8 then (some ((M7.1 i 1), M7)) else (pm_loop (fun _ _ => none) (fun (g9 : Int32 → pm_M → Option (Int32 × pm_M)) x11 M10 => if (M10.1 1 0) ≤ x11 then (pm_lt ((x8 + (1 : Int32))) fun x12 => g6 x12 M10) else (pm_bd (sStates_likeliestAt x8 x11 M10) fun v14 M13 => pm_bv (if pm_in ((x8 * (M10.1 1 0)) + x11) 40 then some (pm_sL M13 l ((x8 * (M10.1 1 0)) + x11).toNatClampNeg (gcv (M13.1 i 0) (v14.toInt64))) else none) fun M15 => pm_lt ((x11 + (1 : Int32))) fun x16 => g9 x16 M15)) 1000000 (0 : Int32) M7)) 1000000 (0 : Int32) M5)
theorem C_film_g {j : Nat} (hj : j < 4) (M : pm_M) : (if nI j = 0 then (pm_bv (sSheet_become_40 (1 : Int32) ((2 : Int32) * (M.1 1 0)) M) fun M5 => pm_loop (fun _ _ => none) (fun (g6 : Int32 → pm_M → Option (Int32 × pm_M)) x8 M7 => if (2 : Int32) ≤ x8 then (some ((M7.1 40 1), M7)) else (pm_loop (fun _ _ => none) (fun (g9 : Int32 → pm_M → Option (Int32 × pm_M)) x11 M10 => if (M10.1 1 0) ≤ x11 then (pm_lt ((x8 + (1 : Int32))) fun x12 => g6 x12 M10) else (pm_bd (sStates_likeliestAt x8 x11 M10) fun v14 M13 => pm_bv (sSheet_store_40 ((x8 * (M10.1 1 0)) + x11) (v14.toInt64) M13) fun M15 => pm_lt ((x11 + (1 : Int32))) fun x16 => g9 x16 M15)) 1000000 (0 : Int32) M7)) 1000000 (0 : Int32) M5) else if nI j = 1 then (pm_bv (sSheet_become_42 (1 : Int32) ((2 : Int32) * (M.1 1 0)) M) fun M17 => pm_loop (fun _ _ => none) (fun (g18 : Int32 → pm_M → Option (Int32 × pm_M)) x20 M19 => if (2 : Int32) ≤ x20 then (some ((M19.1 42 1), M19)) else (pm_loop (fun _ _ => none) (fun (g21 : Int32 → pm_M → Option (Int32 × pm_M)) x23 M22 => if (M22.1 1 0) ≤ x23 then (pm_lt ((x20 + (1 : Int32))) fun x24 => g18 x24 M22) else (pm_bd (sStates_likeliestAt x20 x23 M22) fun v26 M25 => pm_bv (sSheet_store_42 ((x20 * (M22.1 1 0)) + x23) (v26.toInt64) M25) fun M27 => pm_lt ((x23 + (1 : Int32))) fun x28 => g21 x28 M27)) 1000000 (0 : Int32) M19)) 1000000 (0 : Int32) M17) else if nI j = 2 then (pm_bv (sSheet_become_44 (1 : Int32) ((2 : Int32) * (M.1 1 0)) M) fun M29 => pm_loop (fun _ _ => none) (fun (g30 : Int32 → pm_M → Option (Int32 × pm_M)) x32 M1 => if (2 : Int32) ≤ x32 then (some ((M1.1 44 1), M1)) else (pm_loop (fun _ _ => none) (fun (g33 : Int32 → pm_M → Option (Int32 × pm_M)) x35 M4 => if (M4.1 1 0) ≤ x35 then (pm_lt ((x32 + (1 : Int32))) fun x36 => g30 x36 M4) else (pm_bd (sStates_likeliestAt x32 x35 M4) fun v38 M7 => pm_bv (sSheet_store_44 ((x32 * (M4.1 1 0)) + x35) (v38.toInt64) M7) fun M9 => pm_lt ((x35 + (1 : Int32))) fun x40 => g33 x40 M9)) 1000000 (0 : Int32) M1)) 1000000 (0 : Int32) M29) else if nI j = 3 then (pm_bv (sSheet_become_46 (1 : Int32) ((2 : Int32) * (M.1 1 0)) M) fun M41 => pm_loop (fun _ _ => none) (fun (g42 : Int32 → pm_M → Option (Int32 × pm_M)) x44 M43 => if (2 : Int32) ≤ x44 then (some ((M43.1 46 1), M43)) else (pm_loop (fun _ _ => none) (fun (g45 : Int32 → pm_M → Option (Int32 × pm_M)) x47 M46 => if (M46.1 1 0) ≤ x47 then (pm_lt ((x44 + (1 : Int32))) fun x48 => g42 x48 M46) else (pm_bd (sStates_likeliestAt x44 x47 M46) fun v50 M49 => pm_bv (sSheet_store_46 ((x44 * (M46.1 1 0)) + x47) (v50.toInt64) M49) fun M51 => pm_lt ((x47 + (1 : Int32))) fun x52 => g45 x52 M51)) 1000000 (0 : Int32) M43)) 1000000 (0 : Int32) M41) else none) = gC_film (40 + 2 * j) (41 + 2 * j) M := by
  unfold gC_film
  rcases (show j = 0 ∨ j = 1 ∨ j = 2 ∨ j = 3 by omega) with rfl | rfl | rfl | rfl
  · simp only [show nI 0 = (0 : Int32) from rfl, show 40 + 2 * 0 = 40 from rfl, show 41 + 2 * 0 = 41 from rfl, sf01, sf02, sf03, sf10, sf12, sf13, sf20, sf21, sf23, sf30, sf31, sf32, eq_self, if_true, if_false, becm_40, stor_40]
  · simp only [show nI 1 = (1 : Int32) from rfl, show 40 + 2 * 1 = 42 from rfl, show 41 + 2 * 1 = 43 from rfl, sf01, sf02, sf03, sf10, sf12, sf13, sf20, sf21, sf23, sf30, sf31, sf32, eq_self, if_true, if_false, becm_42, stor_42]
  · simp only [show nI 2 = (2 : Int32) from rfl, show 40 + 2 * 2 = 44 from rfl, show 41 + 2 * 2 = 45 from rfl, sf01, sf02, sf03, sf10, sf12, sf13, sf20, sf21, sf23, sf30, sf31, sf32, eq_self, if_true, if_false, becm_44, stor_44]
  · simp only [show nI 3 = (3 : Int32) from rfl, show 40 + 2 * 3 = 46 from rfl, show 41 + 2 * 3 = 47 from rfl, sf01, sf02, sf03, sf10, sf12, sf13, sf20, sf21, sf23, sf30, sf31, sf32, eq_self, if_true, if_false, becm_46, stor_46]
noncomputable def fvl (d : qD) (k : Nat) : Int64 := (nI ((qbe d).2 (5 * (k / qS d) + k % qS d))).toInt64
theorem fvl_at (d : qD) (c : Nat) {s : Nat} (hs : s < qS d) : fvl d (qS d * c + s) = (nI ((qbe d).2 (5 * c + s))).toInt64 := by
  unfold fvl
  rw [Nat.mul_add_div (by omega), Nat.div_eq_of_lt hs, Nat.mul_add_mod, Nat.mod_eq_of_lt hs, Nat.add_zero]
def fmC (d : qD) (M : pm_M) (i l p : Nat) (a : pm_M) : Prop := (∀ b, b ≠ 23 → b ≠ 28 → b ≠ 29 → b ≠ i → a.1 b = M.1 b) ∧ (∀ k, k ≠ 3 → a.1 23 k = M.1 23 k) ∧ qLk a d ∧ a.1 i 0 = 1 ∧ a.1 i 1 = nI (2 * qS d) ∧ (∀ b, b ≠ 23 → b ≠ l → a.2 b = M.2 b) ∧ ∀ k, k < 40 → a.2 l k = if k < p then fvl d k else 0
theorem C_fm_in {d : qD} {M a : pm_M} (hd : qOK d) (hsn : qsnd d) (hC : qC M d) (hSt : qSt M d (qdd d)) {i l : Nat} (hi : 40 ≤ i ∧ i < 48) (hl : 40 ≤ l ∧ l < 48) {c : Nat} (hc : c < 2) (ha : fmC d M i l (qS d * c) a) (g6 : Int32 → pm_M → Option (Int32 × pm_M)) : ∃ a', fmC d M i l (qS d * (c + 1)) a' ∧ (fun (x8 : Int32) (M7 : pm_M) => pm_loop (fun _ _ => none) (fun (g9 : Int32 → pm_M → Option (Int32 × pm_M)) x11 M10 => if (M10.1 1 0) ≤ x11 then (pm_lt ((x8 + (1 : Int32))) fun x12 => g6 x12 M10) else (pm_bd (sStates_likeliestAt x8 x11 M10) fun v14 M13 => pm_bv (if pm_in ((x8 * (M10.1 1 0)) + x11) 40 then some (pm_sL M13 l ((x8 * (M10.1 1 0)) + x11).toNatClampNeg (gcv (M13.1 i 0) (v14.toInt64))) else none) fun M15 => pm_lt ((x11 + (1 : Int32))) fun x16 => g9 x16 M15)) 1000000 (0 : Int32) M7) (nI c) a = g6 (nI (c + 1)) a' := by
  have hS := hd.1
  have hsc : qS d * c ≤ 5 * 1 := Nat.mul_le_mul hS (by omega)
  dsimp only
  refine q_fz (fun r => ∃ a', fmC d M i l (qS d * (c + 1)) a' ∧ r = g6 (nI (c + 1)) a') (fun s a (g : Int32 → pm_M → Option (Int32 × pm_M)) => g (nI s) a) (fun s a => fmC d M i l (qS d * c + s) a) (qS d) ?_ ?_ (n := 1000000) (a := a) (by omega) ha
  · rintro s a hs ⟨a1, a2, a3, a4, a5, a6, a7⟩ g
    have hSta : qSt a d (qdd d) := qSt_of hSt (fun k hk => a2 k (by omega)) (a1 24 (by omega) (by omega) (by omega) (by omega)) (a6 25 (by omega) (by omega))
    obtain ⟨M', e, f1, f2, f3, f4, f5⟩ := States_likeliestAt hd hsn hSta a3 hc hs
    refine ⟨pm_sL M' l (qS d * c + s) (fvl d (qS d * c + s)), ⟨fun b b1 b2 b3 b4 => by rw [sL_1, f1 b b1 b2 b3, a1 b b1 b2 b3 b4], fun k hk => by rw [sL_1, f3 k hk, a2 k hk], Or.inr ⟨f4, f5⟩, by rw [sL_1, f1 i (by omega) (by omega) (by omega)]; exact a4, by rw [sL_1, f1 i (by omega) (by omega) (by omega)]; exact a5, fun b b1 b2 => by rw [sL_2, if_neg b2, f2 b b1, a6 b b1 b2], fun k hk => ?_⟩, ?_⟩
    · rw [sL_2, if_pos rfl]
      unfold vp_updL
      by_cases z : k = qS d * c + s
      · rw [if_pos z, if_pos (by omega), z]
      · rw [if_neg z, f2 l (by omega), a7 k hk]
        by_cases z2 : k < qS d * c + s
        · rw [if_pos z2, if_pos (by omega)]
        · rw [if_neg z2, if_neg (by omega)]
    · rw [a1 1 (by omega) (by omega) (by omega) (by omega), hC.1, if_neg (by rw [nI_le_iff (by omega) (by omega)]; omega), e, q_bd, nI_mul, Nat.mul_comm c (qS d), qI_add, if_pos (by rw [nI_in_iff (by omega)]; omega), q_bv, q_lt, ← nI_succ, nI_cl _ (by omega), f1 i (by omega) (by omega) (by omega), a4, fvl_at d c hs]
      unfold gcv
      rw [if_pos rfl, Int32.toInt32_toInt64]
  · rintro a ha g
    have a1 := ha.1
    refine ⟨a, by rw [Nat.mul_succ]; exact ha, ?_⟩
    rw [a1 1 (by omega) (by omega) (by omega) (by omega), hC.1, if_pos (Int32.le_refl _), q_lt, ← nI_succ]
theorem C_film_s {d : qD} {M : pm_M} (hd : qOK d) (hsn : qsnd d) (hC : qC M d) (hSt : qSt M d (qdd d)) (hLk : qLk M d) {i l : Nat} (hi : 40 ≤ i ∧ i < 48) (hl : 40 ≤ l ∧ l < 48) : ∃ M', gC_film i l M = some (nI (2 * qS d), M') ∧ fmC d M i l (qS d * 2) M' := by
  have hS := hd.1
  unfold gC_film
  rw [q_bv]
  refine q_fz (fun r => ∃ M', r = some (nI (2 * qS d), M') ∧ fmC d M i l (qS d * 2) M') (fun c a (g : Int32 → pm_M → Option (Int32 × pm_M)) => g (nI c) a) (fun c a => fmC d M i l (qS d * c) a) 2 ?_ ?_ (n := 1000000) (a := mu_L (pm_sI (pm_sI M i 0 (1 : Int32)) i 1 ((2 : Int32) * (M.1 1 0))) l (qfl (M.2 l) 0 40)) (by omega) ?_
  · intro c a hc ha g
    obtain ⟨a', h1, h2⟩ := C_fm_in hd hsn hC hSt hi hl hc ha g
    refine ⟨a', h1, ?_⟩
    rw [if_neg (by rw [q2, nI_le_iff (by omega) (by omega)]; omega)]
    exact h2
  · intro a ha g
    refine ⟨a, ?_, ha⟩
    rw [if_pos (by decide), ha.2.2.2.2.1]
  · have x1 : ∀ b, b ≠ i → (mu_L (pm_sI (pm_sI M i 0 (1 : Int32)) i 1 ((2 : Int32) * (M.1 1 0))) l (qfl (M.2 l) 0 40)).1 b = M.1 b := fun b hb => by show (pm_sI (pm_sI M i 0 1) i 1 _).1 b = _; rw [sI_1, if_neg hb, sI_1, if_neg hb]
    have x2 : (mu_L (pm_sI (pm_sI M i 0 (1 : Int32)) i 1 ((2 : Int32) * (M.1 1 0))) l (qfl (M.2 l) 0 40)).1 i = upd (upd (M.1 i) 0 1) 1 ((2 : Int32) * (M.1 1 0)) := by show (pm_sI (pm_sI M i 0 1) i 1 _).1 i = _; rw [sI_1, if_pos rfl, sI_1, if_pos rfl]
    refine ⟨fun b _ _ _ hb => x1 b hb, fun k _ => by rw [x1 23 (by omega)], qLk_k hLk (by rw [x1 23 (by omega)]) (x1 29 (by omega)), by rw [x2]; rfl, ?_, fun b _ hb => by rw [uL_0 _ _ _ _ hb]; rfl, fun k hk => by rw [uL_a, qfl_at _ _ hk, if_neg (by omega)]⟩
    rw [x2, upd_at, hC.1, q2, nI_mul]
