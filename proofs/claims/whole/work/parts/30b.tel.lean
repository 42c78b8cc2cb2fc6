/-! TELLING: station and route -/
theorem qfz_w {d : qD} (hd : qOK d) {c s t : Nat} (hc : c < 2) (hs : s < 5) (ht : t < 5) (h : qS d ≤ s ∨ qS d ≤ t) : qW d (25 * c + 5 * s + t) = 0 := by
  apply Classical.byContradiction
  intro q
  have := hd.2.2.2.2.2.2.2.2 c s t hc hs ht q
  omega
def sp_station (d : qD) (a b c : Int32) : Int32 × Option qD := if pm_in a 4 ∧ pm_tm b ∧ pm_tm c then (if qS d < 5 then (nI (qS d), some (qS d + 1, fupd (qK d) (qS d) a.toNatClampNeg, fupd (fupd (qT d) (qS d) b.toNatClampNeg) (5 + qS d) c.toNatClampNeg, qH d, qP d, qW d)) else (-4, none)) else (-2, none)
theorem sp_station_ok {d : qD} (hd : qOK d) {a b c : Nat} (ha : a ≤ 3) (hb : 1 ≤ b ∧ b ≤ 9) (hc : 1 ≤ c ∧ c ≤ 9) (h5 : qS d < 5) : qOK (qS d + 1, fupd (qK d) (qS d) a, fupd (fupd (qT d) (qS d) b) (5 + qS d) c, qH d, qP d, qW d) := by
  obtain ⟨a1, a2, a3, a4, a5, a6, a7, a8, a9⟩ := hd
  refine ⟨by show qS d + 1 ≤ 5; omega, fun j => ?_, fun j => ?_, fun c' s' hc' hs' => ?_, fun j hj => by show qH d j ≤ qS d + 1; have := a5 j hj; omega, a6, a7, a8, fun c' s' t' hc' hs' ht' hw => ?_⟩
  · show fupd (qK d) (qS d) a j ≤ 3
    unfold fupd
    split
    · exact ha
    · exact a2 j
  · show fupd (fupd (qT d) (qS d) b) (5 + qS d) c j ≤ 9
    unfold fupd
    split
    · exact hc.2
    · split
      · exact hb.2
      · exact a3 j
  · show 1 ≤ fupd (fupd (qT d) (qS d) b) (5 + qS d) c (5 * c' + s')
    have hs2 : s' < qS d + 1 := hs'
    unfold fupd
    split
    · exact hc.1
    · split
      · exact hb.1
      · exact a4 c' s' hc' (by omega)
  · have := a9 c' s' t' hc' hs' ht' hw
    exact ⟨by show s' < qS d + 1; omega, by show t' < qS d + 1; omega⟩
theorem nI_5 {n : Nat} (h : n ≤ 5) : (nI n = 5 ↔ n = 5) ∧ (nI n < 5 ↔ n < 5) := ⟨by rw [q5, nI_inj (by omega) (by omega)], by rw [q5, nI_lt_iff (by omega) (by omega)]⟩
theorem C_station {d : qD} {M : pm_M} (hd : qOK d) (h : qC M d) (a b c : Int32) : qCe (sC_station a b c) (sp_station d a b c) M := by
  have hS := hd.1
  unfold qCe sp_station sC_station
  rw [C_isKind, q_bd]
  by_cases i1 : pm_in a 4
  case neg =>
    rw [b2i_f i1, if_pos rfl, if_neg (show ¬ (pm_in a 4 ∧ pm_tm b ∧ pm_tm c) from fun q => i1 q.1)]
    exact ⟨M, rfl, rfl⟩
  rw [b2i_t i1, if_neg (by decide), C_isTime, q_bd]
  by_cases i2 : pm_tm b
  case neg =>
    rw [b2i_f i2, if_pos rfl, if_neg (show ¬ (pm_in a 4 ∧ pm_tm b ∧ pm_tm c) from fun q => i2 q.2.1)]
    exact ⟨M, rfl, rfl⟩
  rw [b2i_t i2, if_neg (by decide), C_isTime, q_bd]
  by_cases i3 : pm_tm c
  case neg =>
    rw [b2i_f i3, if_neg (fun q => q rfl), if_neg (show ¬ (pm_in a 4 ∧ pm_tm b ∧ pm_tm c) from fun q => i3 q.2.2)]
    exact ⟨M, rfl, rfl⟩
  rw [b2i_t i3, if_pos (by decide), if_pos (show pm_in a 4 ∧ pm_tm b ∧ pm_tm c from ⟨i1, i2, i3⟩), h.1]
  by_cases h5 : qS d < 5
  case neg =>
    rw [if_neg (fun q => h5 ((nI_5 hS).2.mp q)), if_neg h5]
    exact ⟨M, rfl, rfl⟩
  obtain ⟨a, ha, -, rfl⟩ := pm_kx i1
  obtain ⟨b, hb1, hb9, rfl⟩ := pm_tx i2
  obtain ⟨c, hc1, hc9, rfl⟩ := pm_tx i3
  have j1 : pm_in (nI (qS d)) 5 := by rw [nI_in_iff (by omega)]; exact h5
  have j2 : pm_in (nI (qS d)) 10 := by rw [nI_in_iff (by omega)]; omega
  have j3 : pm_in (nI (5 + qS d)) 10 := by rw [nI_in_iff (by omega)]; omega
  have d1 : (nI (qS d)).toNatClampNeg = qS d := nI_cl _ (by omega)
  have d2 : (nI (5 + qS d)).toNatClampNeg = 5 + qS d := nI_cl _ (by omega)
  rw [if_pos ((nI_5 hS).2.mpr h5), if_pos h5, q_lt]
  simp only [q5s, eq_true j1, eq_true j2, eq_true j3, d1, d2, if_true, q_lt, nI_cl a (by omega), nI_cl b (by omega), nI_cl c (by omega), sI_u, ← nI_succ]
  have hok := sp_station_ok hd (show a ≤ 3 by omega) ⟨hb1, hb9⟩ ⟨hc1, hc9⟩ h5
  generalize hN : mu_I (mu_I (mu_I (mu_I M 1 _) 2 _) 3 _) 3 _ = N
  have hC : qC N (qS d + 1, fupd (qK d) (qS d) a, fupd (fupd (qT d) (qS d) b) (5 + qS d) c, qH d, qP d, qW d) := by
    rw [← hN]
    refine ⟨?_, fun k => ?_, fun k => ?_, h.2.2.2.1, h.2.2.2.2.1, h.2.2.2.2.2⟩
    · rw [uI_0 _ _ _ _ (by decide), uI_0 _ _ _ _ (by decide), uI_0 _ _ _ _ (by decide), uI_a, upd_at]
      rfl
    · rw [uI_0 _ _ _ _ (by decide), uI_0 _ _ _ _ (by decide), uI_a]
      exact upd_fn _ _ _ _ h.2.1 k
    · rw [uI_a, uI_a]
      exact upd_fn _ _ _ _ (upd_fn _ _ _ _ h.2.2.1) k
  obtain ⟨M', e, z⟩ := C_told' (M := M) hok hC (fun b hb => by
    simp only [List.mem_cons, List.not_mem_nil, or_false, not_or] at hb
    rw [← hN, uI_0 _ _ _ _ (by omega), uI_0 _ _ _ _ (by omega), uI_0 _ _ _ _ (by omega), uI_0 _ _ _ _ (by omega)]) (by rw [← hN]; rfl)
  rw [e, q_bv]
  exact ⟨M', rfl, hok, z⟩
theorem R_station {d : qD} {M : pm_M} (hd : qOK d) (h : qR M d) (a b c : Int32) : qRe (sR_station a b c) (sp_station d a b c) M := by
  have hS := hd.1
  unfold qRe sp_station sR_station
  rw [R_in03, q_bd]
  by_cases i1 : pm_in a 4
  case neg =>
    rw [b2i_f i1, if_pos rfl, if_neg (show ¬ (pm_in a 4 ∧ pm_tm b ∧ pm_tm c) from fun q => i1 q.1)]
    exact ⟨M, rfl, rfl⟩
  rw [b2i_t i1, if_neg (by decide), R_in19, q_bd]
  by_cases i2 : pm_tm b
  case neg =>
    rw [b2i_f i2, if_pos rfl, if_neg (show ¬ (pm_in a 4 ∧ pm_tm b ∧ pm_tm c) from fun q => i2 q.2.1)]
    exact ⟨M, rfl, rfl⟩
  rw [b2i_t i2, if_neg (by decide), R_in19, q_bd]
  by_cases i3 : pm_tm c
  case neg =>
    rw [b2i_f i3, if_neg (fun q => q rfl), if_neg (show ¬ (pm_in a 4 ∧ pm_tm b ∧ pm_tm c) from fun q => i3 q.2.2)]
    exact ⟨M, rfl, rfl⟩
  rw [b2i_t i3, if_pos (by decide), if_pos (show pm_in a 4 ∧ pm_tm b ∧ pm_tm c from ⟨i1, i2, i3⟩), h.1]
  by_cases h5 : qS d < 5
  case neg =>
    rw [if_neg (fun q => q ((nI_5 hS).1.mpr (by omega))), if_neg h5]
    exact ⟨M, rfl, rfl⟩
  obtain ⟨a, ha, -, rfl⟩ := pm_kx i1
  obtain ⟨b, hb1, hb9, rfl⟩ := pm_tx i2
  obtain ⟨c, hc1, hc9, rfl⟩ := pm_tx i3
  have j1 : pm_in (nI (qS d)) 5 := by rw [nI_in_iff (by omega)]; exact h5
  have j2 : pm_in (nI (qS d)) 10 := by rw [nI_in_iff (by omega)]; omega
  have j3 : pm_in (nI (5 + qS d)) 10 := by rw [nI_in_iff (by omega)]; omega
  have d1 : (nI (qS d)).toNatClampNeg = qS d := nI_cl _ (by omega)
  have d2 : (nI (5 + qS d)).toNatClampNeg = 5 + qS d := nI_cl _ (by omega)
  have g1 : ∀ v, (pm_sI M 50 (qS d) v).1 49 1 = nI (qS d) := fun v => by rw [sI_1, if_neg (by decide)]; exact h.1
  have g2 : ∀ v w, (pm_sI (pm_sI M 50 (qS d) v) 51 (qS d) w).1 49 1 = nI (qS d) := fun v w => by rw [sI_1, if_neg (by decide), sI_1, if_neg (by decide)]; exact h.1
  rw [if_pos (fun q => by have := (nI_5 hS).1.mp q; omega), if_pos h5, if_pos j1, q_lt, d1, g1, if_pos j2, q_lt, d1, g2, q5s, if_pos j3, q_lt, d2, sI_u, sI_u, sI_u, nI_cl a (by omega), nI_cl b (by omega), nI_cl c (by omega)]
  generalize hN : mu_I (mu_I (mu_I M 50 _) 51 _) 51 _ = N
  have n1 : ∀ x, x ≠ 50 → x ≠ 51 → N.1 x = M.1 x := fun x hx hx2 => by rw [← hN, uI_0 _ _ _ _ hx2, uI_0 _ _ _ _ hx2, uI_0 _ _ _ _ hx]
  have n2 : ∀ k, N.1 50 k = nI (fupd (qK d) (qS d) a k) := fun k => by
    rw [← hN, uI_0 _ _ _ _ (by decide), uI_0 _ _ _ _ (by decide), uI_a]
    exact upd_fn _ _ _ _ h.2.1 k
  have n3 : ∀ k, N.1 51 k = nI (fupd (fupd (qT d) (qS d) b) (5 + qS d) c k) := fun k => by
    rw [← hN, uI_a, uI_a]
    exact upd_fn _ _ _ _ (upd_fn _ _ _ _ h.2.2.1) k
  have n4 : N.2 = M.2 := by rw [← hN]; rfl
  clear hN
  have hok := sp_station_ok hd (show a ≤ 3 by omega) ⟨hb1, hb9⟩ ⟨hc1, hc9⟩ h5
  have hI : ∀ (K : pm_M), (∀ x, x ≠ 54 → K.1 x = N.1 x) ∧ (∀ k, K.1 54 k = nI (qW d k)) ∧ K.2 = M.2 → K.1 49 1 = nI (qS d) := fun K hK => by rw [hK.1 49 (by decide), n1 49 (by decide) (by decide)]; exact h.1
  refine q_fz (fun o => ∃ M', o = some (nI (qS d), M') ∧ qRt (qS d + 1, fupd (qK d) (qS d) a, fupd (fupd (qT d) (qS d) b) (5 + qS d) c, qH d, qP d, qW d) M M') (fun i K (g : Int32 → pm_M → Option (Int32 × pm_M)) => g (nI i) K) (fun i K => (∀ x, x ≠ 54 → K.1 x = N.1 x) ∧ (∀ k, K.1 54 k = nI (qW d k)) ∧ K.2 = M.2) 5 ?_ ?_ (n := 1000000) (by omega) (a := N) ⟨fun x _ => rfl, fun k => by rw [n1 54 (by decide) (by decide)]; exact h.2.2.2.2.2 k, n4⟩
  · rintro i K hi hK g
    rw [if_neg (by rw [q5, nI_le_iff (by omega) (by omega)]; omega)]
    refine q_fz (fun o => ∃ a', ((∀ x, x ≠ 54 → a'.1 x = N.1 x) ∧ (∀ k, a'.1 54 k = nI (qW d k)) ∧ a'.2 = M.2) ∧ o = g (nI (i + 1)) a') (fun j K (g : Int32 → pm_M → Option (Int32 × pm_M)) => g (nI j) K) (fun j K => (∀ x, x ≠ 54 → K.1 x = N.1 x) ∧ (∀ k, K.1 54 k = nI (qW d k)) ∧ K.2 = M.2) 2 ?_ ?_ (n := 1000000) (by omega) (a := K) hK
    · rintro j K hj hK g15
      have e1 := hI K hK
      have k1 : pm_in (nI (25 * j + 5 * i + qS d)) 50 := by rw [nI_in_iff (by omega)]; omega
      have k2 : pm_in (nI (25 * j + 5 * qS d + i)) 50 := by rw [nI_in_iff (by omega)]; omega
      have g3 : ∀ v, (pm_sI K 54 (25 * j + 5 * i + qS d) v).1 49 1 = nI (qS d) := fun v => by rw [sI_1, if_neg (by decide)]; exact e1
      rw [if_neg (by rw [q2, nI_le_iff (by omega) (by omega)]; omega), e1, R_routeAt, q_bd, if_pos k1, q_lt, nI_cl _ (by omega), g3, R_routeAt, q_bd, if_pos k2, q_lt, q_lt, nI_cl _ (by omega), ← nI_succ]
      refine ⟨_, ⟨?_, ?_, ?_⟩, rfl⟩
      · intro x hx
        rw [sI_1, if_neg hx, sI_1, if_neg hx]
        exact hK.1 x hx
      · intro k
        rw [sI_1, if_pos rfl, sI_1, if_pos rfl]
        unfold upd
        by_cases q : k = 25 * j + 5 * qS d + i
        · rw [if_pos q, q, qfz_w hd hj (by omega) hi (Or.inl (Nat.le_refl _))]
          rfl
        · rw [if_neg q]
          by_cases q2 : k = 25 * j + 5 * i + qS d
          · rw [if_pos q2, q2, qfz_w hd hj hi (by omega) (Or.inr (Nat.le_refl _))]
            rfl
          · rw [if_neg q2]
            exact hK.2.1 k
      · exact hK.2.2
    · rintro K hK g15
      rw [if_pos (by decide), q_lt, ← nI_succ]
      exact ⟨K, hK, rfl⟩
  · rintro K hK g
    have e1 := hI K hK
    rw [if_pos (by decide), q_lt, e1, ← nI_succ]
    obtain ⟨M', e, z⟩ := R_told' (M := M) (d' := (qS d + 1, fupd (qK d) (qS d) a, fupd (fupd (qT d) (qS d) b) (5 + qS d) c, qH d, qP d, qW d)) (N := pm_sI K 49 1 (nI (qS d + 1))) ⟨by rw [sI_1, if_pos rfl, upd_at]; rfl, fun k => by rw [sI_1, if_neg (by decide), hK.1 50 (by decide)]; exact n2 k, fun k => by rw [sI_1, if_neg (by decide), hK.1 51 (by decide)]; exact n3 k, fun k => by rw [sI_1, if_neg (by decide), hK.1 52 (by decide), n1 52 (by decide) (by decide)]; exact h.2.2.2.1 k, fun k => by rw [sI_1, if_neg (by decide), hK.1 53 (by decide), n1 53 (by decide) (by decide)]; exact h.2.2.2.2.1 k, fun k => by rw [sI_1, if_neg (by decide)]; exact hK.2.1 k⟩ (fun x hx => by
        simp only [List.mem_cons, List.not_mem_nil, or_false, not_or] at hx
        rw [sI_1, if_neg (by omega), hK.1 x (by omega), n1 x (by omega) (by omega)]) (fun k hk => by
        rw [sI_1, if_pos rfl]
        unfold upd
        rw [if_neg hk, hK.1 49 (by decide), n1 49 (by decide) (by decide)]) hK.2.2
    rw [e, q_bv]
    refine ⟨M', ?_, z⟩
    have : M'.1 49 1 = nI (qS d + 1) := z.1.1
    rw [this, q1, nI_sub (by omega), Nat.add_sub_cancel]
/-! route -/
def sp_route (d : qD) (c s t w : Int32) : Int32 × Option qD := if pm_in c 2 ∧ pm_in s (qS d) ∧ pm_in t (qS d) ∧ pm_in w 10 then (nI (qW d (25 * c.toNatClampNeg + 5 * s.toNatClampNeg + t.toNatClampNeg)), some (qS d, qK d, qT d, qH d, qP d, fupd (qW d) (25 * c.toNatClampNeg + 5 * s.toNatClampNeg + t.toNatClampNeg) w.toNatClampNeg)) else (-2, none)
theorem sp_route_ok {d : qD} (hd : qOK d) {c s t w : Nat} (hc : c < 2) (hs : s < qS d) (ht : t < qS d) (hw : w ≤ 9) : qOK (qS d, qK d, qT d, qH d, qP d, fupd (qW d) (25 * c + 5 * s + t) w) := by
  obtain ⟨a1, a2, a3, a4, a5, a6, a7, a8, a9⟩ := hd
  refine ⟨a1, a2, a3, a4, a5, a6, a7, fun k => ?_, fun c' s' t' hc' hs' ht' hne => ?_⟩
  · show fupd (qW d) (25 * c + 5 * s + t) w k ≤ 9
    unfold fupd
    split
    · exact hw
    · exact a8 k
  · show s' < qS d ∧ t' < qS d
    have hne' : fupd (qW d) (25 * c + 5 * s + t) w (25 * c' + 5 * s' + t') ≠ 0 := hne
    by_cases q : 25 * c' + 5 * s' + t' = 25 * c + 5 * s + t
    · have e1 : s' = s := by omega
      have e2 : t' = t := by omega
      rw [e1, e2]
      exact ⟨hs, ht⟩
    · rw [fupd_ne _ _ q] at hne'
      exact a9 c' s' t' hc' hs' ht' hne'
theorem C_route {d : qD} {M : pm_M} (hd : qOK d) (h : qC M d) (c s t w : Int32) : qCe (sC_route c s t w) (sp_route d c s t w) M := by
  have hS := hd.1
  unfold qCe sp_route sC_route
  rw [C_isClass, q_bd]
  by_cases i1 : pm_in c 2
  case neg =>
    rw [b2i_f i1, if_pos rfl, if_neg (show ¬ (pm_in c 2 ∧ pm_in s (qS d) ∧ pm_in t (qS d) ∧ pm_in w 10) from fun q => i1 q.1)]
    exact ⟨M, rfl, rfl⟩
  rw [b2i_t i1, if_neg (by decide), Net_hasStation hd h, q_bd]
  by_cases i2 : pm_in s (qS d)
  case neg =>
    rw [b2i_f i2, if_pos rfl, if_neg (show ¬ (pm_in c 2 ∧ pm_in s (qS d) ∧ pm_in t (qS d) ∧ pm_in w 10) from fun q => i2 q.2.1)]
    exact ⟨M, rfl, rfl⟩
  rw [b2i_t i2, if_neg (by decide), Net_hasStation hd h, q_bd]
  by_cases i3 : pm_in t (qS d)
  case neg =>
    rw [b2i_f i3, if_neg (fun q => q rfl), if_neg (show ¬ (pm_in c 2 ∧ pm_in s (qS d) ∧ pm_in t (qS d) ∧ pm_in w 10) from fun q => i3 q.2.2.1)]
    exact ⟨M, rfl, rfl⟩
  rw [b2i_t i3, if_pos (by decide)]
  by_cases i4 : pm_in w 10
  case neg =>
    rw [if_neg (show ¬ (pm_in c 2 ∧ pm_in s (qS d) ∧ pm_in t (qS d) ∧ pm_in w 10) from fun q => i4 q.2.2.2)]
    by_cases z : w < 0
    · rw [if_pos z]
      exact ⟨M, rfl, rfl⟩
    · rw [if_neg z, if_neg (Int32.not_le.mpr (show (9 : Int32) < w from pm_hi (n := 9) (by omega) i4 z))]
      exact ⟨M, rfl, rfl⟩
  rw [if_pos (show pm_in c 2 ∧ pm_in s (qS d) ∧ pm_in t (qS d) ∧ pm_in w 10 from ⟨i1, i2, i3, i4⟩)]
  obtain ⟨c, hc, -, rfl⟩ := pm_kx i1
  obtain ⟨s, hs, -, rfl⟩ := pm_kx i2
  obtain ⟨t, ht, -, rfl⟩ := pm_kx i3
  obtain ⟨w, hw, -, rfl⟩ := pm_kx i4
  have hok := sp_route_ok hd hc hs ht (show w ≤ 9 by omega)
  rw [if_neg (nI_nneg (by omega)), if_pos (by rw [q9, nI_le_iff (by omega) (by omega)]; omega), Net_weightOf h hc (by omega) (by omega), q_bd, Net_setWeight hc (by omega) (by omega), q_bv, nI_cl c (by omega), nI_cl s (by omega), nI_cl t (by omega), nI_cl w (by omega), sI_u]
  obtain ⟨M', e, z⟩ := C_told' (M := M) hok (N := mu_I M 6 (upd (M.1 6) (25 * c + 5 * s + t) (nI w))) ⟨h.1, h.2.1, h.2.2.1, h.2.2.2.1, h.2.2.2.2.1, fun k => by rw [uI_a]; exact upd_fn _ _ _ _ h.2.2.2.2.2 k⟩ (fun b hb => uI_0 _ _ _ _ (fun q => hb (by rw [q]; decide))) rfl
  rw [e, q_bv]
  exact ⟨M', rfl, hok, z⟩
theorem R_route {d : qD} {M : pm_M} (hd : qOK d) (h : qR M d) (c s t w : Int32) : qRe (sR_route c s t w) (sp_route d c s t w) M := by
  have hS := hd.1
  unfold qRe sp_route sR_route
  rw [R_isPart, q_bd]
  by_cases i1 : pm_in c 2
  case neg =>
    rw [b2i_f i1, if_pos rfl, if_neg (show ¬ (pm_in c 2 ∧ pm_in s (qS d) ∧ pm_in t (qS d) ∧ pm_in w 10) from fun q => i1 q.1)]
    exact ⟨M, rfl, rfl⟩
  rw [b2i_t i1, if_neg (by decide), R_isStation hd h, q_bd]
  by_cases i2 : pm_in s (qS d)
  case neg =>
    rw [b2i_f i2, if_pos rfl, if_neg (show ¬ (pm_in c 2 ∧ pm_in s (qS d) ∧ pm_in t (qS d) ∧ pm_in w 10) from fun q => i2 q.2.1)]
    exact ⟨M, rfl, rfl⟩
  rw [b2i_t i2, if_neg (by decide), R_isStation hd h, q_bd]
  by_cases i3 : pm_in t (qS d)
  case neg =>
    rw [b2i_f i3, if_pos rfl, if_neg (show ¬ (pm_in c 2 ∧ pm_in s (qS d) ∧ pm_in t (qS d) ∧ pm_in w 10) from fun q => i3 q.2.2.1)]
    exact ⟨M, rfl, rfl⟩
  rw [b2i_t i3, if_neg (by decide), R_in09, q_bd]
  by_cases i4 : pm_in w 10
  case neg =>
    rw [b2i_f i4, if_neg (fun q => q rfl), if_neg (show ¬ (pm_in c 2 ∧ pm_in s (qS d) ∧ pm_in t (qS d) ∧ pm_in w 10) from fun q => i4 q.2.2.2)]
    exact ⟨M, rfl, rfl⟩
  rw [b2i_t i4, if_pos (by decide), if_pos (show pm_in c 2 ∧ pm_in s (qS d) ∧ pm_in t (qS d) ∧ pm_in w 10 from ⟨i1, i2, i3, i4⟩)]
  obtain ⟨c, hc, -, rfl⟩ := pm_kx i1
  obtain ⟨s, hs, -, rfl⟩ := pm_kx i2
  obtain ⟨t, ht, -, rfl⟩ := pm_kx i3
  obtain ⟨w, hw, -, rfl⟩ := pm_kx i4
  have hin : pm_in (nI (25 * c + 5 * s + t)) 50 := by rw [nI_in_iff (by omega)]; omega
  rw [R_routeAt, q_bd, if_pos hin, q_lt, R_routeAt, q_bd, if_pos hin, q_lt, nI_cl (25 * c + 5 * s + t) (by omega), nI_cl c (by omega), nI_cl s (by omega), nI_cl t (by omega), nI_cl w (by omega), h.2.2.2.2.2, sI_u]
  obtain ⟨M', e, z⟩ := R_told' (M := M) (d' := (qS d, qK d, qT d, qH d, qP d, fupd (qW d) (25 * c + 5 * s + t) w)) (N := mu_I M 54 (upd (M.1 54) (25 * c + 5 * s + t) (nI w))) ⟨h.1, h.2.1, h.2.2.1, h.2.2.2.1, h.2.2.2.2.1, fun k => by rw [uI_a]; exact upd_fn _ _ _ _ h.2.2.2.2.2 k⟩ (fun b hb => uI_0 _ _ _ _ (fun q => hb (by rw [q]; decide))) (fun k _ => rfl) rfl
  rw [e, q_bv]
  exact ⟨M', rfl, z⟩
