/-! SHEETS: copied -/
theorem sub_lt {x n p : Nat} (hx : x ≤ 40) (hn : n < 2 ^ 31) (hp : p < 2 ^ 31) : nI x - nI n < nI p ↔ x < p + n := by
  rw [Int32.lt_iff_toInt_lt, Int32.toInt_sub, nI_toInt (by omega), nI_toInt hn, nI_toInt hp, Int.bmod_def]
  split <;> omega
def qcp (S D n : Nat) (M M' : pm_M) : Prop := M'.1 = M.1 ∧ (∀ b, b ≠ 80 → M'.2 b = M.2 b) ∧ ∀ x, M'.2 80 x = if D ≤ x ∧ x < D + n then M.2 80 (S + x - D) else M.2 80 x
theorem R_cpy {j k p q n : Nat} (hj : j < 4) (hk : k < 4) (hp : p + n ≤ 40) (hq : q + n ≤ 40) {dir : Int32} (hdir : (dir = 0 ∧ (j ≠ k ∨ q ≤ p)) ∨ (dir = 1 ∧ j = k ∧ p < q)) (M : pm_M) : ∃ M', qcp (40 * j + p) (40 * k + q) n M M' ∧ (fun (a1 a2 a3 a4 a5 q7 : Int32) (M6 : pm_M) => pm_loop (fun _ _ => none) (fun (g8 : Int32 → pm_M → Option (Int32 × pm_M)) x10 M9 => if a5 ≤ x10 then (some (a5, M9)) else (pm_jn (fun (q13 : Int32) (M12 : pm_M) => if pm_in ((((40 : Int32) * a1) + a2) + q13) 160 then (if pm_in ((((40 : Int32) * a3) + a4) + q13) 160 then (pm_lt (pm_sL M12 80 ((((40 : Int32) * a3) + a4) + q13).toNatClampNeg ((M12.2 80 ((((40 : Int32) * a1) + a2) + q13).toNatClampNeg))) fun M14 => pm_lt ((x10 + (1 : Int32))) fun x15 => g8 x15 M14) else none) else none) fun (j11 : Int32 → pm_M → Option (Int32 × pm_M)) => if q7 = 0 then (j11 x10 M9) else (j11 (((a5 - (1 : Int32)) - x10)) M9))) 1000000 (0 : Int32) M6) (nI j) (nI p) (nI k) (nI q) (nI n) dir M = some (nI n, M') := by
  dsimp only
  have ha : ∀ (u v e : Nat), ((40 : Int32) * nI u + nI v) + nI e = nI (40 * u + v + e) := fun u v e => by rw [q40, qI_add]
  rcases hdir with ⟨rfl, hd⟩ | ⟨rfl, rfl, hd⟩
  · refine q_fz (fun r => ∃ M', qcp (40 * j + p) (40 * k + q) n M M' ∧ r = some (nI n, M')) (fun i a (g : Int32 → pm_M → Option (Int32 × pm_M)) => g (nI i) a) (fun i a => qcp (40 * j + p) (40 * k + q) i M a) n ?_ ?_ (n := 1000000) (a := M) (by omega) ⟨rfl, fun _ _ => rfl, fun x => by rw [if_neg (by omega)]⟩
    · rintro i a hi ⟨a1, a2, a3⟩ g
      refine ⟨pm_sL a 80 (40 * k + q + i) (M.2 80 (40 * j + p + i)), ⟨a1, fun b hb => by rw [sL_2, if_neg hb, a2 b hb], fun x => ?_⟩, ?_⟩
      · rw [sL_2, if_pos rfl]
        unfold vp_updL
        rw [a3 x]
        by_cases z : x = 40 * k + q + i
        · rw [if_pos z, if_pos (by omega), show 40 * j + p + x - (40 * k + q) = 40 * j + p + i by omega]
        · rw [if_neg z]
          by_cases z2 : 40 * k + q ≤ x ∧ x < 40 * k + q + i
          · rw [if_pos z2, if_pos (by omega)]
          · rw [if_neg z2, if_neg (by omega)]
      · rw [if_neg (by rw [nI_le_iff (by omega) (by omega)]; omega), q_jn, if_pos rfl]
        dsimp only
        rw [ha, ha, if_pos (by rw [nI_in_iff (by omega)]; omega), if_pos (by rw [nI_in_iff (by omega)]; omega), nI_cl _ (by omega), nI_cl _ (by omega), a3 (40 * j + p + i), if_neg (by omega), q_lt, q_lt, ← nI_succ]
    · intro a ha g
      refine ⟨a, ha, ?_⟩
      rw [if_pos (Int32.le_refl _)]
  · refine q_fz (fun r => ∃ M', qcp (40 * j + p) (40 * j + q) n M M' ∧ r = some (nI n, M')) (fun i a (g : Int32 → pm_M → Option (Int32 × pm_M)) => g (nI i) a) (fun i a => a.1 = M.1 ∧ (∀ b, b ≠ 80 → a.2 b = M.2 b) ∧ ∀ x, a.2 80 x = if 40 * j + q + (n - i) ≤ x ∧ x < 40 * j + q + n then M.2 80 (40 * j + p + x - (40 * j + q)) else M.2 80 x) n ?_ ?_ (n := 1000000) (a := M) (by omega) ⟨rfl, fun _ _ => rfl, fun x => by rw [if_neg (by omega)]⟩
    · rintro i a hi ⟨a1, a2, a3⟩ g
      refine ⟨pm_sL a 80 (40 * j + q + (n - 1 - i)) (M.2 80 (40 * j + p + (n - 1 - i))), ⟨a1, fun b hb => by rw [sL_2, if_neg hb, a2 b hb], fun x => ?_⟩, ?_⟩
      · rw [sL_2, if_pos rfl]
        unfold vp_updL
        rw [a3 x]
        by_cases z : x = 40 * j + q + (n - 1 - i)
        · rw [if_pos z, if_pos (by omega), show 40 * j + p + x - (40 * j + q) = 40 * j + p + (n - 1 - i) by omega]
        · rw [if_neg z]
          by_cases z2 : 40 * j + q + (n - i) ≤ x ∧ x < 40 * j + q + n
          · rw [if_pos z2, if_pos (by omega)]
          · rw [if_neg z2, if_neg (by omega)]
      · have e1 : (nI n - (1 : Int32)) - nI i = nI (n - 1 - i) := by rw [q1, nI_sub (by omega), nI_sub (by omega)]
        rw [if_neg (by rw [nI_le_iff (by omega) (by omega)]; omega), q_jn, if_neg (by decide)]
        dsimp only
        rw [e1, ha, ha, if_pos (by rw [nI_in_iff (by omega)]; omega), if_pos (by rw [nI_in_iff (by omega)]; omega), nI_cl _ (by omega), nI_cl _ (by omega), a3 (40 * j + p + (n - 1 - i)), if_neg (by omega), q_lt, q_lt, ← nI_succ]
    · rintro a ⟨a1, a2, a3⟩ g
      refine ⟨a, ⟨a1, a2, fun x => ?_⟩, ?_⟩
      · rw [a3 x, Nat.sub_self, Nat.add_zero]
      · rw [if_pos (Int32.le_refl _)]
theorem I_copy {t : Nat} {M : pm_M} (h : qInv t M) (a1 a2 a3 a4 a5 : Int32) : qBo t (sC_copy a1 a2 a3 a4 a5) (sR_copy a1 a2 a3 a4 a5) M := by
  obtain ⟨d, h1, h2, h3, h4, h5, h6, h7⟩ := id h
  by_cases i1 : pm_in a1 4
  case neg =>
    refine ⟨-2, M, M, ?_, ?_, h⟩
    · unfold sC_copy
      rw [C_isSheet, q_bd, b2i_f i1, if_pos rfl]
    · unfold sR_copy
      rw [R_isSheet, q_bd, b2i_f i1, if_pos rfl]
  by_cases i3 : pm_in a3 4
  case neg =>
    refine ⟨-2, M, M, ?_, ?_, h⟩
    · unfold sC_copy
      rw [C_isSheet, q_bd, b2i_t i1, if_neg (by decide), C_isSheet, q_bd, b2i_f i3, if_neg (fun q => q rfl)]
    · unfold sR_copy
      rw [R_isSheet, q_bd, b2i_t i1, if_neg (by decide), R_isSheet, q_bd, b2i_f i3, if_neg (fun q => q rfl)]
  obtain ⟨j, hj, -, rfl⟩ := pm_kx i1
  obtain ⟨k, hk, -, rfl⟩ := pm_kx i3
  obtain ⟨n, n1, n2, n3, n4, n5, n6⟩ := h7 j hj
  obtain ⟨m, m1, m2, m3, m4, m5, m6⟩ := h7 k hk
  have hcj : (nI j).toNatClampNeg = j := nI_cl j (by omega)
  have hck : (nI k).toNatClampNeg = k := nI_cl k (by omega)
  have hR : ∀ (N : pm_M) (r : Int32 × pm_M), N.1 78 = M.1 78 → N.1 79 = M.1 79 → (if M.1 78 j = -1 then some ((-11 : Int32), N) else if ¬ M.1 78 k = -1 then (if M.1 78 j = M.1 78 k then (if a5 < 0 then some ((-12 : Int32), N) else if a2 < 0 then some ((-12 : Int32), N) else if a4 < 0 then some ((-12 : Int32), N) else if nI n - a5 < a2 then some ((-12 : Int32), N) else if a4 ≤ nI m - a5 then (if ¬ nI j = nI k then (fun (q7 : Int32) (M6 : pm_M) => (pm_loop (fun _ _ => none) (fun (g8 : Int32 → pm_M → Option (Int32 × pm_M)) x10 M9 => if a5 ≤ x10 then (some (a5, M9)) else (pm_jn (fun (q13 : Int32) (M12 : pm_M) => if pm_in ((((40 : Int32) * nI j) + a2) + q13) 160 then (if pm_in ((((40 : Int32) * nI k) + a4) + q13) 160 then (pm_lt (pm_sL M12 80 ((((40 : Int32) * nI k) + a4) + q13).toNatClampNeg ((M12.2 80 ((((40 : Int32) * nI j) + a2) + q13).toNatClampNeg))) fun M14 => pm_lt ((x10 + (1 : Int32))) fun x15 => g8 x15 M14) else none) else none) fun (j11 : Int32 → pm_M → Option (Int32 × pm_M)) => if q7 = 0 then (j11 x10 M9) else (j11 (((a5 - (1 : Int32)) - x10)) M9))) 1000000 (0 : Int32) M6)) 0 N else if a4 ≤ a2 then (fun (q7 : Int32) (M6 : pm_M) => (pm_loop (fun _ _ => none) (fun (g8 : Int32 → pm_M → Option (Int32 × pm_M)) x10 M9 => if a5 ≤ x10 then (some (a5, M9)) else (pm_jn (fun (q13 : Int32) (M12 : pm_M) => if pm_in ((((40 : Int32) * nI j) + a2) + q13) 160 then (if pm_in ((((40 : Int32) * nI k) + a4) + q13) 160 then (pm_lt (pm_sL M12 80 ((((40 : Int32) * nI k) + a4) + q13).toNatClampNeg ((M12.2 80 ((((40 : Int32) * nI j) + a2) + q13).toNatClampNeg))) fun M14 => pm_lt ((x10 + (1 : Int32))) fun x15 => g8 x15 M14) else none) else none) fun (j11 : Int32 → pm_M → Option (Int32 × pm_M)) => if q7 = 0 then (j11 x10 M9) else (j11 (((a5 - (1 : Int32)) - x10)) M9))) 1000000 (0 : Int32) M6)) 0 N else (fun (q7 : Int32) (M6 : pm_M) => (pm_loop (fun _ _ => none) (fun (g8 : Int32 → pm_M → Option (Int32 × pm_M)) x10 M9 => if a5 ≤ x10 then (some (a5, M9)) else (pm_jn (fun (q13 : Int32) (M12 : pm_M) => if pm_in ((((40 : Int32) * nI j) + a2) + q13) 160 then (if pm_in ((((40 : Int32) * nI k) + a4) + q13) 160 then (pm_lt (pm_sL M12 80 ((((40 : Int32) * nI k) + a4) + q13).toNatClampNeg ((M12.2 80 ((((40 : Int32) * nI j) + a2) + q13).toNatClampNeg))) fun M14 => pm_lt ((x10 + (1 : Int32))) fun x15 => g8 x15 M14) else none) else none) fun (j11 : Int32 → pm_M → Option (Int32 × pm_M)) => if q7 = 0 then (j11 x10 M9) else (j11 (((a5 - (1 : Int32)) - x10)) M9))) 1000000 (0 : Int32) M6)) 1 N) else some ((-12 : Int32), N)) else some ((-13 : Int32), N)) else some ((-11 : Int32), N)) = some r → sR_copy (nI j) a2 (nI k) a4 a5 N = some r := by
    intro N r e78 e79 e
    unfold sR_copy
    rw [R_isSheet, q_bd, b2i_t i1, if_neg (by decide), R_isSheet, q_bd, b2i_t i3, if_pos (by decide)]
    simp only [eq_true i1, eq_true i3, if_true, hcj, hck, e78, e79, n3, m3, q_jn]
    exact e
  by_cases z1 : M.1 78 j = -1
  · refine ⟨-11, M, M, ?_, hR M _ rfl rfl (by rw [if_pos z1]), h⟩
    rw [C_copy_g hj hk]
    unfold gC_copy
    rw [b2i_t (by rw [n4]; exact z1), if_pos (by decide)]
  by_cases z2 : M.1 78 k = -1
  · refine ⟨-11, M, M, ?_, hR M _ rfl rfl (by rw [if_neg z1, if_neg (fun q => q z2)]), h⟩
    rw [C_copy_g hj hk]
    unfold gC_copy
    rw [b2i_f (by rw [n4]; exact z1), if_neg (fun q => q rfl), b2i_t (by rw [m4]; exact z2), if_neg (by decide)]
  by_cases z3 : M.1 78 j = M.1 78 k
  case neg =>
    refine ⟨-13, M, M, ?_, hR M _ rfl rfl (by rw [if_neg z1, if_pos z2, if_neg z3]), h⟩
    rw [C_copy_g hj hk]
    unfold gC_copy
    rw [b2i_f (by rw [n4]; exact z1), if_neg (fun q => q rfl), b2i_f (by rw [m4]; exact z2), if_pos rfl, n4, m4, if_neg z3]
  by_cases y1 : ¬ a2 < 0 ∧ ¬ a5 < 0 ∧ ¬ nI n - a5 < a2
  case neg =>
    refine ⟨-12, M, M, ?_, hR M _ rfl rfl ?_, h⟩
    · rw [C_copy_g hj hk]
      unfold gC_copy
      rw [b2i_f (by rw [n4]; exact z1), if_neg (fun q => q rfl), b2i_f (by rw [m4]; exact z2), if_pos rfl, n4, m4, if_pos z3, n2, b2i_f y1, if_pos rfl]
    · rw [if_neg z1, if_pos z2, if_pos z3]
      by_cases w5 : a5 < 0
      · rw [if_pos w5]
      rw [if_neg w5]
      by_cases w2 : a2 < 0
      · rw [if_pos w2]
      rw [if_neg w2]
      by_cases w4 : a4 < 0
      · rw [if_pos w4]
      rw [if_neg w4, if_pos (Classical.byContradiction (fun q => y1 ⟨w2, w5, q⟩))]
  by_cases y2 : ¬ a4 < 0 ∧ ¬ a5 < 0 ∧ ¬ nI m - a5 < a4
  case neg =>
    refine ⟨-12, M, M, ?_, hR M _ rfl rfl ?_, h⟩
    · rw [C_copy_g hj hk]
      unfold gC_copy
      rw [b2i_f (by rw [n4]; exact z1), if_neg (fun q => q rfl), b2i_f (by rw [m4]; exact z2), if_pos rfl, n4, m4, if_pos z3, n2, b2i_t y1, if_neg (by decide), m2, b2i_f y2, if_neg (fun q => q rfl)]
    · rw [if_neg z1, if_pos z2, if_pos z3, if_neg y1.2.1, if_neg y1.1]
      by_cases w4 : a4 < 0
      · rw [if_pos w4]
      rw [if_neg w4, if_neg y1.2.2, if_neg (fun q => y2 ⟨w4, y1.2.1, Int32.not_lt.mpr q⟩)]
  obtain ⟨p, hp, rfl⟩ := nI_ex y1.1
  obtain ⟨q, hq, rfl⟩ := nI_ex y2.1
  obtain ⟨e, he, rfl⟩ := nI_ex y1.2.1
  have l1 : p + e ≤ n := by
    have := y1.2.2
    rw [sub_lt n1 he hp] at this
    omega
  have l2 : q + e ≤ m := by
    have := y2.2.2
    rw [sub_lt m1 he hq] at this
    omega
  have hdec : ∃ dir : Int32, ((dir = 0 ∧ (j ≠ k ∨ q ≤ p)) ∨ (dir = 1 ∧ j = k ∧ p < q)) ∧ ∀ {ρ : Type} (F : Int32 → pm_M → ρ) (N : pm_M), (if ¬ nI j = nI k then F 0 N else if nI q ≤ nI p then F 0 N else F 1 N) = F dir N := by
    by_cases w1 : j = k
    · by_cases w2 : q ≤ p
      · refine ⟨0, Or.inl ⟨rfl, Or.inr w2⟩, fun F N => ?_⟩
        rw [if_neg (fun u => u (by rw [w1])), if_pos ((nI_le_iff (by omega) (by omega)).mpr w2)]
      · refine ⟨1, Or.inr ⟨rfl, w1, by omega⟩, fun F N => ?_⟩
        rw [if_neg (fun u => u (by rw [w1])), if_neg (fun u => w2 ((nI_le_iff (by omega) (by omega)).mp u))]
    · refine ⟨0, Or.inl ⟨rfl, Or.inl w1⟩, fun F N => ?_⟩
      rw [if_pos (fun u => w1 ((nI_inj (by omega) (by omega)).mp u))]
  obtain ⟨dir, hdir, hF⟩ := hdec
  obtain ⟨M', w, ew⟩ := R_cpy hj hk (show p + e ≤ 40 by omega) (show q + e ≤ 40 by omega) hdir (pm_cL M (41 + 2 * j) (41 + 2 * k) p q e)
  obtain ⟨w1, w2, w3⟩ := w
  refine ⟨nI e, pm_cL M (41 + 2 * j) (41 + 2 * k) p q e, M', ?_, hR _ _ rfl rfl ?_, ?_⟩
  · rw [C_copy_g hj hk]
    unfold gC_copy
    rw [b2i_f (by rw [n4]; exact z1), if_neg (fun q => q rfl), b2i_f (by rw [m4]; exact z2), if_pos rfl, n4, m4, if_pos z3, n2, b2i_t y1, if_neg (by decide), m2, b2i_t y2, if_pos (by decide), nI_cl p hp, nI_cl q hq, nI_cl e he, if_pos ⟨y1.1, y2.1, y1.2.1, by omega, by omega, by decide⟩]
  · rw [if_neg z1, if_pos z2, if_pos z3, if_neg y1.2.1, if_neg y1.1, if_neg y2.1, if_neg y1.2.2, if_pos (Int32.not_lt.mp y2.2.2)]
    exact (hF (fun (q7 : Int32) (M6 : pm_M) => (pm_loop (fun _ _ => none) (fun (g8 : Int32 → pm_M → Option (Int32 × pm_M)) x10 M9 => if nI e ≤ x10 then (some (nI e, M9)) else (pm_jn (fun (q13 : Int32) (M12 : pm_M) => if pm_in ((((40 : Int32) * nI j) + nI p) + q13) 160 then (if pm_in ((((40 : Int32) * nI k) + nI q) + q13) 160 then (pm_lt (pm_sL M12 80 ((((40 : Int32) * nI k) + nI q) + q13).toNatClampNeg ((M12.2 80 ((((40 : Int32) * nI j) + nI p) + q13).toNatClampNeg))) fun M14 => pm_lt ((x10 + (1 : Int32))) fun x15 => g8 x15 M14) else none) else none) fun (j11 : Int32 → pm_M → Option (Int32 × pm_M)) => if q7 = 0 then (j11 x10 M9) else (j11 (((nI e - (1 : Int32)) - x10)) M9))) 1000000 (0 : Int32) M6)) (pm_cL M (41 + 2 * j) (41 + 2 * k) p q e)).trans ew
  · have o2 : ∀ b, b ≠ 41 + 2 * k → (pm_cL M (41 + 2 * j) (41 + 2 * k) p q e).2 b = M.2 b := fun b hb => by
      funext x
      show (if b = 41 + 2 * k then _ else M.2 b x) = _
      rw [if_neg hb]
    have ol : ∀ x, (pm_cL M (41 + 2 * j) (41 + 2 * k) p q e).2 (41 + 2 * k) x = if q ≤ x ∧ x < q + e then M.2 (41 + 2 * j) (p + (x - q)) else M.2 (41 + 2 * k) x := fun x => by
      show (if 41 + 2 * k = 41 + 2 * k then va_cpy _ _ p q e x else _) = _
      rw [if_pos rfl]
      rfl
    have o80 : ∀ x, M'.2 80 x = if 40 * k + q ≤ x ∧ x < 40 * k + q + e then M.2 80 (40 * j + p + x - (40 * k + q)) else M.2 80 x := fun x => by
      rw [w3 x, o2 80 (by omega)]
    have hk3 := row_L hk
    refine qInv_sh h (fun b _ => by rw [w1]; rfl) (fun b hb => ?_) (qSh_upd hk h7 ⟨m, m1, by rw [w1]; exact m2, by rw [w1]; exact m3, by rw [w1]; exact m4, by rw [w1]; exact m5, fun i hi => ?_⟩ (fun b _ _ _ => by rw [w1]; rfl) (fun b b1 b2 => ?_) (fun _ _ => by rw [w1]; rfl) (fun _ _ => by rw [w1]; rfl) (fun i hi ho => ?_))
    · rw [w2 b (fun q => hb (by rw [q]; decide)), o2 b (fun q => hb (by rw [q]; exact hk3))]
    · rw [w2 _ (by omega), ol, o80]
      by_cases u : q ≤ i ∧ i < q + e
      · rw [if_pos u, if_pos (by omega), n6 (p + (i - q)) (by omega), show 40 * j + p + (40 * k + i) - (40 * k + q) = 40 * j + (p + (i - q)) by omega]
      · rw [if_neg u, if_neg (by omega), m6 i hi]
    · rw [w2 b b2, o2 b b1]
    · rw [o80, if_neg (fun u => ho (i - 40 * k) (by omega) (by omega))]
