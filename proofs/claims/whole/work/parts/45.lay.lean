/-! LAYING, each side -/
noncomputable def lfn (d : qD) (o m p : Nat) (F : Nat → Int64) : Nat → Nat := fun k => if o ≤ k ∧ k < o + m then lw (F (p + (k - o))) else qW d k
theorem lfn_0 (d : qD) (o p : Nat) (F : Nat → Int64) (k : Nat) : lfn d o 0 p F k = qW d k := if_neg (by omega)
theorem lfn_s (d : qD) (o m p : Nat) (F : Nat → Int64) (k : Nat) : lfn d o (m + 1) p F k = if k = o + m then lw (F (p + m)) else lfn d o m p F k := by
  unfold lfn
  by_cases z : k = o + m
  · rw [if_pos z, if_pos (by omega), show p + (k - o) = p + m by omega]
  · rw [if_neg z]
    by_cases z2 : o ≤ k ∧ k < o + m
    · rw [if_pos z2, if_pos (by omega)]
    · rw [if_neg z2, if_neg (by omega)]
theorem sp_lay_ok {d : qD} (hd : qOK d) {c s : Nat} (hs : s < qS d) (p : Nat) (F : Nat → Int64) : qOK (qS d, qK d, qT d, qH d, qP d, lfn d (25 * c + 5 * s) (qS d) p F) := by
  obtain ⟨h1, h2, h3, h4, h5, h6, h7, h8, h9⟩ := hd
  refine ⟨h1, h2, h3, h4, h5, h6, h7, fun k => ?_, fun c' s' t' hc' hs' ht' hne => ?_⟩
  · show lfn d (25 * c + 5 * s) (qS d) p F k ≤ 9
    unfold lfn
    by_cases z : 25 * c + 5 * s ≤ k ∧ k < 25 * c + 5 * s + qS d
    · rw [if_pos z]; exact lw_9 _
    · rw [if_neg z]; exact h8 k
  · have hne' : lfn d (25 * c + 5 * s) (qS d) p F (25 * c' + 5 * s' + t') ≠ 0 := hne
    show s' < qS d ∧ t' < qS d
    unfold lfn at hne'
    by_cases z : 25 * c + 5 * s ≤ 25 * c' + 5 * s' + t' ∧ 25 * c' + 5 * s' + t' < 25 * c + 5 * s + qS d
    · omega
    · rw [if_neg z] at hne'
      exact h9 c' s' t' hc' hs' ht' hne'
noncomputable def sp_lay (d : qD) (M : pm_M) (a1 a2 a3 a4 a5 : Int32) : Int32 × Option qD := if pm_in a1 4 ∧ pm_in a2 2 ∧ pm_in a3 (qS d) ∧ pm_in a4 3 then (if M.1 78 a1.toNatClampNeg = -1 then (-11, none) else if M.1 78 a1.toNatClampNeg = a4 then (if ¬ a5 < 0 ∧ ¬ M.1 79 a1.toNatClampNeg - nI (qS d) < a5 then (nI (qS d), some (qS d, qK d, qT d, qH d, qP d, lfn d (25 * a2.toNatClampNeg + 5 * a3.toNatClampNeg) (qS d) a5.toNatClampNeg (fun x => M.2 80 (40 * a1.toNatClampNeg + x)))) else (-12, none)) else (-13, none)) else (-2, none)
theorem C_lay {d : qD} {M : pm_M} (hd : qOK d) (h : qC M d) (hSh : qSh M) (a1 a2 a3 a4 a5 : Int32) : qCe (sC_lay a1 a2 a3 a4 a5) (sp_lay d M a1 a2 a3 a4 a5) M := by
  have hS := hd.1
  unfold qCe sp_lay sC_lay
  rw [C_isSheet, q_bd]
  by_cases i1 : pm_in a1 4
  case neg =>
    rw [b2i_f i1, if_pos rfl, if_neg (show ¬ (pm_in a1 4 ∧ pm_in a2 2 ∧ pm_in a3 (qS d) ∧ pm_in a4 3) from fun q => i1 q.1)]
    exact ⟨M, rfl, rfl⟩
  rw [b2i_t i1, if_neg (by decide), C_isClass, q_bd]
  by_cases i2 : pm_in a2 2
  case neg =>
    rw [b2i_f i2, if_pos rfl, if_neg (show ¬ (pm_in a1 4 ∧ pm_in a2 2 ∧ pm_in a3 (qS d) ∧ pm_in a4 3) from fun q => i2 q.2.1)]
    exact ⟨M, rfl, rfl⟩
  rw [b2i_t i2, if_neg (by decide), Net_hasStation hd h, q_bd]
  by_cases i3 : pm_in a3 (qS d)
  case neg =>
    rw [b2i_f i3, if_pos rfl, if_neg (show ¬ (pm_in a1 4 ∧ pm_in a2 2 ∧ pm_in a3 (qS d) ∧ pm_in a4 3) from fun q => i3 q.2.2.1)]
    exact ⟨M, rfl, rfl⟩
  rw [b2i_t i3, if_neg (by decide), C_isSort, q_bd]
  by_cases i4 : pm_in a4 3
  case neg =>
    rw [b2i_f i4, if_neg (fun q => q rfl), if_neg (show ¬ (pm_in a1 4 ∧ pm_in a2 2 ∧ pm_in a3 (qS d) ∧ pm_in a4 3) from fun q => i4 q.2.2.2)]
    exact ⟨M, rfl, rfl⟩
  rw [b2i_t i4, if_pos (by decide), if_pos (show pm_in a1 4 ∧ pm_in a2 2 ∧ pm_in a3 (qS d) ∧ pm_in a4 3 from ⟨i1, i2, i3, i4⟩)]
  obtain ⟨j, hj, -, rfl⟩ := pm_kx i1
  obtain ⟨c, hc, -, rfl⟩ := pm_kx i2
  obtain ⟨s, hs, -, rfl⟩ := pm_kx i3
  obtain ⟨n, n1, n2, n3, n4, n5, n6⟩ := hSh j hj
  rw [C_lay_g hj, nI_cl j (by omega), nI_cl c (by omega), nI_cl s (by omega)]
  unfold gC_lay
  rw [q_bd, q_jn]
  by_cases m : M.1 78 j = -1
  · rw [b2i_t (show M.1 (40 + 2 * j) 0 = -1 by rw [n4]; exact m), if_pos (by decide), if_pos m]
    dsimp only
    rw [q_bd, b2i_t (show M.1 (40 + 2 * j) 0 = -1 by rw [n4]; exact m), if_neg (by decide)]
    exact ⟨M, rfl, rfl⟩
  have m' : ¬ M.1 (40 + 2 * j) 0 = -1 := by rw [n4]; exact m
  rw [b2i_f m', if_neg (fun q => q rfl), if_neg m]
  by_cases e4 : M.1 78 j = a4
  case neg =>
    rw [if_neg (show ¬ M.1 (40 + 2 * j) 0 = a4 by rw [n4]; exact e4), if_neg e4]
    exact ⟨M, rfl, rfl⟩
  rw [if_pos (show M.1 (40 + 2 * j) 0 = a4 by rw [n4]; exact e4), if_pos e4]
  dsimp only
  rw [q_bd, b2i_f m', if_pos rfl, q_bd, h.1, n2, n3]
  by_cases y : ¬ a5 < 0 ∧ ¬ nI n - nI (qS d) < a5
  case neg =>
    rw [b2i_f (show ¬ (¬ a5 < 0 ∧ ¬ nI (qS d) < 0 ∧ ¬ nI n - nI (qS d) < a5) from fun q => y ⟨q.1, q.2.2⟩), if_neg (fun q => q rfl), if_neg y]
    exact ⟨M, rfl, rfl⟩
  rw [b2i_t (show ¬ a5 < 0 ∧ ¬ nI (qS d) < 0 ∧ ¬ nI n - nI (qS d) < a5 from ⟨y.1, nI_nneg (by omega), y.2⟩), if_pos (by decide), if_pos y]
  obtain ⟨p, hp, rfl⟩ := nI_ex y.1
  have hpn : p + qS d ≤ n := by
    have := y.2
    rw [sub_lt n1 (by omega) hp] at this
    omega
  rw [nI_cl p hp]
  refine q_fz (fun r => ∃ M', r = some (nI (qS d), M') ∧ qOK (qS d, qK d, qT d, qH d, qP d, lfn d (25 * c + 5 * s) (qS d) p (fun x => M.2 80 (40 * j + x))) ∧ qCt (qS d, qK d, qT d, qH d, qP d, lfn d (25 * c + 5 * s) (qS d) p (fun x => M.2 80 (40 * j + x))) M M') (fun i a (g : Int32 → pm_M → Option (Int32 × pm_M)) => g (nI i) a) (fun i a => (∀ b, b ≠ 6 → a.1 b = M.1 b) ∧ (∀ k, a.1 6 k = nI (lfn d (25 * c + 5 * s) i p (fun x => M.2 80 (40 * j + x)) k)) ∧ a.2 = M.2) (qS d) ?_ ?_ (n := 1000000) (a := M) (by omega) ⟨fun _ _ => rfl, fun k => by rw [lfn_0]; exact h.2.2.2.2.2 k, rfl⟩
  · rintro i a hi ⟨a1, a2, a3⟩ g
    refine ⟨pm_sI a 6 (25 * c + 5 * s + i) (nI (lw (M.2 80 (40 * j + (p + i))))), ⟨fun b hb => by rw [sI_1, if_neg hb, a1 b hb], fun k => ?_, a3⟩, ?_⟩
    · rw [sI_1, if_pos rfl, lfn_s]
      unfold upd
      by_cases z : k = 25 * c + 5 * s + i
      · rw [if_pos z, if_pos z]
      · rw [if_neg z, if_neg z]
        exact a2 k
    · rw [a1 1 (by decide), h.1, if_neg (by rw [nI_le_iff (by omega) (by omega)]; omega), qI_add, if_pos (by rw [nI_in_iff (by omega)]; omega), nI_cl (p + i) (by omega), a3, lw_C, n6 (p + i) (by omega), Net_setWeight hc (by omega) (by omega), q_bv, q_lt, ← nI_succ]
  · rintro a ⟨a1, a2, a3⟩ g
    have hCa : qC a (qS d, qK d, qT d, qH d, qP d, lfn d (25 * c + 5 * s) (qS d) p (fun x => M.2 80 (40 * j + x))) := ⟨by rw [a1 1 (by decide)]; exact h.1, by rw [a1 2 (by decide)]; exact h.2.1, by rw [a1 3 (by decide)]; exact h.2.2.1, by rw [a1 4 (by decide)]; exact h.2.2.2.1, by rw [a1 5 (by decide)]; exact h.2.2.2.2.1, a2⟩
    obtain ⟨M', e, k⟩ := C_told' (M := M) (sp_lay_ok hd hs p (fun x => M.2 80 (40 * j + x)) (c := c)) hCa (fun b hb => a1 b (fun q => hb (by rw [q]; decide))) a3
    refine ⟨M', ?_, sp_lay_ok hd hs p _, k⟩
    rw [a1 1 (by decide), h.1, if_pos (Int32.le_refl _), e, q_bv, k.1.1]
    rfl
theorem R_lay {d : qD} {M0 M : pm_M} (hd : qOK d) (h : qR M d) (hSh : qSh M0) (e78 : M.1 78 = M0.1 78) (e79 : M.1 79 = M0.1 79) (e80 : M.2 80 = M0.2 80) (a1 a2 a3 a4 a5 : Int32) : qRe (sR_lay a1 a2 a3 a4 a5) (sp_lay d M0 a1 a2 a3 a4 a5) M := by
  have hS := hd.1
  unfold qRe sp_lay sR_lay
  rw [R_isSheet, q_bd]
  by_cases i1 : pm_in a1 4
  case neg =>
    rw [b2i_f i1, if_pos rfl, if_neg (show ¬ (pm_in a1 4 ∧ pm_in a2 2 ∧ pm_in a3 (qS d) ∧ pm_in a4 3) from fun q => i1 q.1)]
    exact ⟨M, rfl, rfl⟩
  rw [b2i_t i1, if_neg (by decide), R_isPart, q_bd]
  by_cases i2 : pm_in a2 2
  case neg =>
    rw [b2i_f i2, if_pos rfl, if_neg (show ¬ (pm_in a1 4 ∧ pm_in a2 2 ∧ pm_in a3 (qS d) ∧ pm_in a4 3) from fun q => i2 q.2.1)]
    exact ⟨M, rfl, rfl⟩
  rw [b2i_t i2, if_neg (by decide), R_isStation hd h, q_bd]
  by_cases i3 : pm_in a3 (qS d)
  case neg =>
    rw [b2i_f i3, if_pos rfl, if_neg (show ¬ (pm_in a1 4 ∧ pm_in a2 2 ∧ pm_in a3 (qS d) ∧ pm_in a4 3) from fun q => i3 q.2.2.1)]
    exact ⟨M, rfl, rfl⟩
  rw [b2i_t i3, if_neg (by decide), R_in02, q_bd]
  by_cases i4 : pm_in a4 3
  case neg =>
    rw [b2i_f i4, if_neg (fun q => q rfl), if_neg (show ¬ (pm_in a1 4 ∧ pm_in a2 2 ∧ pm_in a3 (qS d) ∧ pm_in a4 3) from fun q => i4 q.2.2.2)]
    exact ⟨M, rfl, rfl⟩
  rw [b2i_t i4, if_pos (by decide), if_pos (show pm_in a1 4 ∧ pm_in a2 2 ∧ pm_in a3 (qS d) ∧ pm_in a4 3 from ⟨i1, i2, i3, i4⟩)]
  obtain ⟨j, hj, -, rfl⟩ := pm_kx i1
  obtain ⟨c, hc, -, rfl⟩ := pm_kx i2
  obtain ⟨s, hs, -, rfl⟩ := pm_kx i3
  obtain ⟨n, n1, n2, n3, n4, n5, n6⟩ := hSh j hj
  have hck : (nI j).toNatClampNeg = j := nI_cl j (by omega)
  simp only [eq_true i1, if_true, hck, e78, e79, n3, nI_cl c (show c < 2 ^ 31 by omega), nI_cl s (show s < 2 ^ 31 by omega)]
  by_cases m : M0.1 78 j = -1
  · rw [if_neg (fun q => q m), if_pos m]
    exact ⟨M, rfl, rfl⟩
  rw [if_pos m, if_neg m]
  by_cases e4 : M0.1 78 j = a4
  case neg =>
    rw [if_neg e4, if_neg e4]
    exact ⟨M, rfl, rfl⟩
  rw [if_pos e4, if_pos e4, h.1]
  by_cases y : ¬ a5 < 0 ∧ ¬ nI n - nI (qS d) < a5
  case neg =>
    rw [if_neg y]
    by_cases w : a5 < 0
    · rw [if_pos w]
      exact ⟨M, rfl, rfl⟩
    · rw [if_neg w, if_neg (fun q => y ⟨w, Int32.not_lt.mpr q⟩)]
      exact ⟨M, rfl, rfl⟩
  rw [if_neg y.1, if_pos (Int32.not_lt.mp y.2), if_pos y]
  obtain ⟨p, hp, rfl⟩ := nI_ex y.1
  have hpn : p + qS d ≤ n := by
    have := y.2
    rw [sub_lt n1 (by omega) hp] at this
    omega
  rw [nI_cl p hp]
  refine q_fz (fun r => ∃ M', r = some (nI (qS d), M') ∧ qRt (qS d, qK d, qT d, qH d, qP d, lfn d (25 * c + 5 * s) (qS d) p (fun x => M0.2 80 (40 * j + x))) M M') (fun i a (g : Int32 → pm_M → Option (Int32 × pm_M)) => g (nI i) a) (fun i a => (∀ b, b ≠ 54 → a.1 b = M.1 b) ∧ (∀ k, a.1 54 k = nI (lfn d (25 * c + 5 * s) i p (fun x => M0.2 80 (40 * j + x)) k)) ∧ a.2 = M.2) (qS d) ?_ ?_ (n := 1000000) (a := M) (by omega) ⟨fun _ _ => rfl, fun k => by rw [lfn_0]; exact h.2.2.2.2.2 k, rfl⟩
  · rintro i a hi ⟨a1, a2, a3⟩ g
    refine ⟨pm_sI a 54 (25 * c + 5 * s + i) (nI (lw (M0.2 80 (40 * j + (p + i))))), ⟨fun b hb => by rw [sI_1, if_neg hb, a1 b hb], fun k => ?_, a3⟩, ?_⟩
    · rw [sI_1, if_pos rfl, lfn_s]
      unfold upd
      by_cases z : k = 25 * c + 5 * s + i
      · rw [if_pos z, if_pos z]
      · rw [if_neg z, if_neg z]
        exact a2 k
    · rw [a1 49 (by decide), h.1, if_neg (by rw [nI_le_iff (by omega) (by omega)]; omega), q40, qI_add, if_pos (by rw [nI_in_iff (by omega)]; omega), nI_cl _ (by omega), a3, e80, q_lt, R_routeAt, q_bd]
      refine q_jk (fun r => r = g (nI (i + 1)) (pm_sI a 54 (25 * c + 5 * s + i) (nI (lw (M0.2 80 (40 * j + (p + i))))))) (fun (J : Int32 → pm_M → Option (Int32 × pm_M)) => J (nI (lw (M0.2 80 (40 * j + (p + i))))) a = g (nI (i + 1)) (pm_sI a 54 (25 * c + 5 * s + i) (nI (lw (M0.2 80 (40 * j + (p + i))))))) ?_ ?_
      · rw [if_pos (by rw [nI_in_iff (by omega)]; omega), nI_cl _ (by omega), q_lt, q_lt, ← nI_succ]
      · intro J hJ
        rw [show 40 * j + (p + i) = 40 * j + p + i by omega] at hJ ⊢
        by_cases z : 0 ≤ (M0.2 80 (40 * j + p + i) - M0.2 80 (40 * j + p + i) / (10 : Int64) * (10 : Int64)).toInt32
        · rw [if_pos z, lw_p z]; exact hJ
        · rw [if_neg z, lw_n z]; exact hJ
  · rintro a ⟨a1, a2, a3⟩ g
    have hRa : qR a (qS d, qK d, qT d, qH d, qP d, lfn d (25 * c + 5 * s) (qS d) p (fun x => M0.2 80 (40 * j + x))) := ⟨by rw [a1 49 (by decide)]; exact h.1, by rw [a1 50 (by decide)]; exact h.2.1, by rw [a1 51 (by decide)]; exact h.2.2.1, by rw [a1 52 (by decide)]; exact h.2.2.2.1, by rw [a1 53 (by decide)]; exact h.2.2.2.2.1, a2⟩
    obtain ⟨M', e, k⟩ := R_told' (M := M) hRa (fun b hb => a1 b (fun q => hb (by rw [q]; decide))) (fun k _ => by rw [a1 49 (by decide)]) a3
    refine ⟨M', ?_, k⟩
    rw [a1 49 (by decide), h.1, if_pos (Int32.le_refl _), e, q_bv, k.1.1]
    rfl
theorem I_lay {t : Nat} {M : pm_M} (h : qInv t M) (a1 a2 a3 a4 a5 : Int32) : qBo t (sC_lay a1 a2 a3 a4 a5) (sR_lay a1 a2 a3 a4 a5) M := by
  obtain ⟨d, h1, h2, h3, h4, h5, h6, h7⟩ := h
  exact qBo_tell2 h1 h3 h4 h5 h6 h7 h2 (C_lay h1.1 h1.2.1 h7 a1 a2 a3 a4 a5) (fun M1 hR e1 e2 e3 => R_lay h1.1 hR h7 e1 e2 e3 a1 a2 a3 a4 a5)
