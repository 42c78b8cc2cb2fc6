/-! THE TAPE: text, both sides -/
theorem exs_ok' (b : Nat → Nat) {d : qD} (p : Nat) (hd : qOK d) (d' : qD) (h : (sclb b d p).2 = some d') : qOK d' := by
  unfold sclb scl at h
  generalize nI (b (p + 1) - 48) = x at h
  generalize nI (b (p + 2) - 48) = y at h
  generalize nI (b (p + 3) - 48) = z at h
  generalize nI (b (p + 4) - 48) = w at h
  by_cases z1 : b p = 104
  · rw [if_pos z1] at h
    have h' : (sp_home d x y).2 = some d' := h
    unfold sp_home at h'
    by_cases q : pm_in x 2 ∧ pm_in y (qS d)
    · rw [if_pos q] at h'
      obtain ⟨s, hs, hs2, rfl⟩ := pm_kx q.2
      rw [nI_cl s hs2] at h'
      cases h'
      exact sp_home_ok hd _ hs
    · rw [if_neg q] at h'
      cases h'
  rw [if_neg z1] at h
  by_cases z2 : b p = 114
  · rw [if_pos z2] at h
    have h' : (sp_route d x y z w).2 = some d' := h
    unfold sp_route at h'
    by_cases q : pm_in x 2 ∧ pm_in y (qS d) ∧ pm_in z (qS d) ∧ pm_in w 10
    · rw [if_pos q] at h'
      obtain ⟨c, hc, hc2, rfl⟩ := pm_kx q.1
      obtain ⟨s, hs, hs2, rfl⟩ := pm_kx q.2.1
      obtain ⟨t, ht, ht2, rfl⟩ := pm_kx q.2.2.1
      obtain ⟨u, hu, hu2, rfl⟩ := pm_kx q.2.2.2
      rw [nI_cl c hc2, nI_cl s hs2, nI_cl t ht2, nI_cl u hu2] at h'
      cases h'
      exact sp_route_ok hd hc hs ht (by omega)
    · rw [if_neg q] at h'
      cases h'
  rw [if_neg z2] at h
  by_cases z3 : b p = 115
  · rw [if_pos z3] at h
    have h' : (sp_station d x y z).2 = some d' := h
    unfold sp_station at h'
    by_cases q : pm_in x 4 ∧ pm_tm y ∧ pm_tm z
    · rw [if_pos q] at h'
      by_cases q5 : qS d < 5
      · rw [if_pos q5] at h'
        obtain ⟨k, hk, hk2, rfl⟩ := pm_kx q.1
        obtain ⟨s, hs, hs9, rfl⟩ := pm_tx q.2.1
        obtain ⟨t, ht, ht9, rfl⟩ := pm_tx q.2.2
        rw [nI_cl k hk2, nI_cl s (by omega), nI_cl t (by omega)] at h'
        cases h'
        exact sp_station_ok hd (by omega) ⟨hs, hs9⟩ ⟨ht, ht9⟩ q5
      · rw [if_neg q5] at h'
        cases h'
    · rw [if_neg q] at h'
      cases h'
  rw [if_neg z3] at h
  have h' : (sp_parts d x y).2 = some d' := h
  unfold sp_parts at h'
  by_cases q : pm_in x 2 ∧ pm_in y 7
  · rw [if_pos q] at h'
    obtain ⟨c, hc, hc2, rfl⟩ := pm_kx q.1
    obtain ⟨m, hm, hm2, rfl⟩ := pm_kx q.2
    rw [nI_cl c hc2, nI_cl m hm2] at h'
    by_cases q8 : m + qP d (1 - c) ≤ 8
    · rw [if_pos q8] at h'
      cases h'
      exact sp_parts_ok hd hc (by omega) q8
    · rw [if_neg q8] at h'
      cases h'
  · rw [if_neg q] at h'
    cases h'
theorem exs_ok (b : Nat → Nat) {d : qD} (p : Nat) (hd : qOK d) : qOK (exs b d p) := by
  unfold exs
  cases e : (sclb b d p).2 with
  | none => exact hd
  | some d' => exact exs_ok' b p hd d' e
theorem trE_0 (a : pm_M) : trE 0 a = some ((-100 : Int32) - a.1 49 10, pm_sI a 49 9 0) := by
  unfold trE
  rw [q_lt, if_neg (fun q => q rfl), sI_1, if_pos rfl]
  rfl
