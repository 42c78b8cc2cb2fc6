/-! THE TAPE, OBEYED: one clause, each side -/
def fl0 (v : Int32) : Int32 := if v < 0 then 0 else 1
def scl (d : qD) (L : Nat) (x y z w : Int32) : Int32 × Option qD := if L = 104 then ((if (sp_home d x y).1 = -2 then 0 else 1), (sp_home d x y).2) else if L = 114 then (fl0 (sp_route d x y z w).1, (sp_route d x y z w).2) else if L = 115 then (fl0 (sp_station d x y z).1, (sp_station d x y z).2) else (fl0 (sp_parts d x y).1, (sp_parts d x y).2)
theorem fl_01 (v : Int32) : fl0 v = 0 ∨ fl0 v = 1 := by
  unfold fl0
  split
  · exact Or.inl rfl
  · exact Or.inr rfl
theorem qCe_map {f g : pm_M → Option (Int32 × pm_M)} {r : Int32 × Option qD} {M : pm_M} {φ : Int32 → Int32} (h : qCe f r M) (e : g M = pm_bd (f M) fun v M' => some (φ v, M')) : qCe g (φ r.1, r.2) M := by
  obtain ⟨M', e1, k⟩ := h
  exact ⟨M', by rw [e, e1, q_bd], k⟩
theorem qRe_map {f g : pm_M → Option (Int32 × pm_M)} {r : Int32 × Option qD} {M : pm_M} {φ : Int32 → Int32} (h : qRe f r M) (e : g M = pm_bd (f M) fun v M' => some (φ v, M')) : qRe g (φ r.1, r.2) M := by
  obtain ⟨M', e1, k⟩ := h
  exact ⟨M', by rw [e, e1, q_bd], k⟩
theorem sp_home_m {d : qD} (hd : qOK d) (x y : Int32) : (sp_home d x y).1 < -1 ↔ (sp_home d x y).1 = -2 := by
  unfold sp_home
  by_cases q : pm_in x 2 ∧ pm_in y (qS d)
  · rw [if_pos q]
    obtain ⟨c, hc, -, rfl⟩ := pm_kx q.1
    rw [nI_cl c (by omega)]
    show hI (qH d c) < -1 ↔ hI (qH d c) = -2
    have h1 := hd.2.2.2.2.1 c hc
    have h2 := hd.1
    rcases (show qH d c = 0 ∨ qH d c = 1 ∨ qH d c = 2 ∨ qH d c = 3 ∨ qH d c = 4 ∨ qH d c = 5 by omega) with e | e | e | e | e | e <;> rw [e] <;> decide
  · rw [if_neg q]
    decide
theorem C_byte {M : pm_M} {n x : Nat} {b : Nat → Nat} (h : tpC M n b) (hx : x ≤ 100) : ∃ v, sTape_byteAt (nI x) M = some (v, M) ∧ (x < n → v = nI (b x)) := by
  obtain ⟨h1, h2, h3⟩ := h
  unfold sTape_byteAt
  rw [if_neg (nI_nneg (by omega)), h2]
  by_cases z : n ≤ x
  · rw [if_pos ((nI_le_iff (by omega) (by omega)).mpr z)]
    exact ⟨-1, rfl, fun q => by omega⟩
  · rw [if_neg (fun q => z ((nI_le_iff (by omega) (by omega)).mp q)), if_pos (by rw [nI_in_iff (by omega)]; omega), nI_cl x (by omega), (h3 x (by omega)).2]
    exact ⟨_, rfl, fun _ => rfl⟩
theorem C_digit {M : pm_M} {n x : Nat} {b : Nat → Nat} (h : tpC M n b) (hx : x ≤ 100) : ∃ v, sTape_digitAt (nI x) M = some (v, M) ∧ (tok b n x → v = nI (b x - 48)) := by
  obtain ⟨v, e, k⟩ := C_byte h hx
  unfold sTape_digitAt
  rw [e, q_bd]
  refine ⟨_, rfl, fun q => ?_⟩
  rw [k q.1, show (48 : Int32) = nI 48 from rfl, nI_sub q.2.1]
theorem C_obey_s {d : qD} {M : pm_M} {n p : Nat} {b : Nat → Nat} (hd : qOK d) (hC : qC M d) (h : tpC M n b) (hp : p < n) (ht : tsz (b p) ≠ 0) (hk : ∀ j, j + 1 < tsz (b p) → tok b n (p + 1 + j)) : qCe (sC_obey (nI p)) (scl d (b p) (nI (b (p + 1) - 48)) (nI (b (p + 2) - 48)) (nI (b (p + 3) - 48)) (nI (b (p + 4) - 48))) M := by
  have h60 := h.1
  have t3 := tsz_2 ht
  obtain ⟨h4, -⟩ := h.2.2 p hp
  obtain ⟨v1, e1, k1⟩ := C_digit h (show p + 1 ≤ 100 by omega)
  obtain ⟨v2, e2, k2⟩ := C_digit h (show p + 2 ≤ 100 by omega)
  obtain ⟨v3, e3, k3⟩ := C_digit h (show p + 3 ≤ 100 by omega)
  obtain ⟨v4, e4, k4⟩ := C_digit h (show p + 4 ≤ 100 by omega)
  obtain ⟨v0, e0, k0⟩ := C_byte h (show p ≤ 100 by omega)
  have w1 : v1 = nI (b (p + 1) - 48) := k1 (hk 0 (by omega))
  have w2 : v2 = nI (b (p + 2) - 48) := k2 (hk 1 (by omega))
  have w0 := k0 hp
  have eo : sC_obey (nI p) M = (if v0 = Int32.ofNat 104 then (pm_bd (sC_home v1 v2 M) fun v12 M11 => if v12 < (-1 : Int32) then (some ((0 : Int32), M11)) else (some ((1 : Int32), M11))) else if v0 = Int32.ofNat 114 then (pm_bd (sC_route v1 v2 v3 v4 M) fun v14 M13 => if v14 < 0 then (some ((0 : Int32), M13)) else (some ((1 : Int32), M13))) else if v0 = Int32.ofNat 115 then (pm_bd (sC_station v1 v2 v3 M) fun v16 M15 => if v16 < 0 then (some ((0 : Int32), M15)) else (some ((1 : Int32), M15))) else (pm_bd (sC_parts v1 v2 M) fun v18 M17 => if v18 < 0 then (some ((0 : Int32), M17)) else (some ((1 : Int32), M17)))) := by
    unfold sC_obey
    rw [q1, q2, show (3 : Int32) = nI 3 from rfl, show (4 : Int32) = nI 4 from rfl, qI_add, qI_add, qI_add, qI_add, e1, q_bd, e2, q_bd, e3, q_bd, e4, q_bd, e0, q_bd]
  have e : ∀ c : Nat, c < 256 → (v0 = Int32.ofNat c ↔ b p = c) := fun c hc => by rw [w0]; exact nI_inj (by omega) (by omega)
  have hfl : ∀ (v : Int32) (M' : pm_M), (if v < 0 then some ((0 : Int32), M') else some ((1 : Int32), M')) = some (fl0 v, M') := fun v M' => by
    unfold fl0
    by_cases z : v < 0
    · rw [if_pos z, if_pos z]
    · rw [if_neg z, if_neg z]
  unfold scl
  by_cases z1 : b p = 104
  · rw [if_pos z1]
    have hc := C_home hd hC v1 v2
    rw [w1, w2] at hc
    obtain ⟨M', y1, y2⟩ := hc
    refine ⟨M', ?_, y2⟩
    rw [eo, if_pos ((e 104 (by omega)).mpr z1), w1, w2, y1, q_bd]
    by_cases u : (sp_home d (nI (b (p + 1) - 48)) (nI (b (p + 2) - 48))).1 = -2
    · rw [if_pos ((sp_home_m hd _ _).mpr u), if_pos u]
    · rw [if_neg (fun q => u ((sp_home_m hd _ _).mp q)), if_neg u]
  rw [if_neg z1]
  by_cases z2 : b p = 114
  · rw [if_pos z2]
    have t5 : tsz (b p) = 5 := by unfold tsz; rw [if_neg z1, if_neg (by omega), if_pos z2]
    have w3 : v3 = nI (b (p + 3) - 48) := k3 (hk 2 (by omega))
    have w4 : v4 = nI (b (p + 4) - 48) := k4 (hk 3 (by omega))
    refine qCe_map (φ := fl0) (C_route hd hC _ _ _ _) ?_
    rw [eo, if_neg (fun q => z1 ((e 104 (by omega)).mp q)), if_pos ((e 114 (by omega)).mpr z2), w1, w2, w3, w4]
    simp only [hfl]
  rw [if_neg z2]
  by_cases z3 : b p = 115
  · rw [if_pos z3]
    have t5 : tsz (b p) = 4 := by unfold tsz; rw [if_neg z1, if_neg (by omega), if_neg z2, if_pos z3]
    have w3 : v3 = nI (b (p + 3) - 48) := k3 (hk 2 (by omega))
    refine qCe_map (φ := fl0) (C_station hd hC _ _ _) ?_
    rw [eo, if_neg (fun q => z1 ((e 104 (by omega)).mp q)), if_neg (fun q => z2 ((e 114 (by omega)).mp q)), if_pos ((e 115 (by omega)).mpr z3), w1, w2, w3]
    simp only [hfl]
  rw [if_neg z3]
  refine qCe_map (φ := fl0) (C_parts hd hC _ _) ?_
  rw [eo, if_neg (fun q => z1 ((e 104 (by omega)).mp q)), if_neg (fun q => z2 ((e 114 (by omega)).mp q)), if_neg (fun q => z3 ((e 115 (by omega)).mp q)), w1, w2]
  simp only [hfl]
theorem R_done_s {d : qD} {M : pm_M} {p c : Nat} {b : Nat → Nat} (hd : qOK d) (hR : qR M d) (hc : c < 24) (hb : b p < 256) (ht : tsz (b p) ≠ 0) (h : rrc M b c p) : qRe (sR_isDone (nI c)) (scl d (b p) (nI (b (p + 1) - 48)) (nI (b (p + 2) - 48)) (nI (b (p + 3) - 48)) (nI (b (p + 4) - 48))) M := by
  obtain ⟨h1, h2⟩ := h
  have t3 := tsz_2 ht
  have w1 : M.1 58 (4 * c) = nI (b (p + 1) - 48) := h2 0 (by omega)
  have w2 : M.1 58 (4 * c + 1) = nI (b (p + 2) - 48) := h2 1 (by omega)
  have in24 : pm_in (nI c) 24 := by rw [nI_in_iff (by omega)]; exact hc
  have a0 : (4 : Int32) * nI c = nI (4 * c) := by rw [show (4 : Int32) = nI 4 from rfl, nI_mul]
  have in0 : pm_in (nI (4 * c)) 96 := by rw [nI_in_iff (by omega)]; omega
  have in1 : pm_in (nI (4 * c + 1)) 96 := by rw [nI_in_iff (by omega)]; omega
  have in2 : pm_in (nI (4 * c + 2)) 96 := by rw [nI_in_iff (by omega)]; omega
  have in3 : pm_in (nI (4 * c + 3)) 96 := by rw [nI_in_iff (by omega)]; omega
  have e : ∀ L : Nat, L < 256 → (nI (b p) = nI L ↔ b p = L) := fun L hL => nI_inj (by omega) (by omega)
  have hfl : ∀ (v : Int32) (M' : pm_M), (if v < 0 then some ((0 : Int32), M') else some ((1 : Int32), M')) = some (fl0 v, M') := fun v M' => by
    unfold fl0
    by_cases z : v < 0
    · rw [if_pos z, if_pos z]
    · rw [if_neg z, if_neg z]
  have eo : sR_isDone (nI c) M = (if ¬ nI (b p) = (115 : Int32) then (if ¬ nI (b p) = (114 : Int32) then (if ¬ nI (b p) = (104 : Int32) then (pm_bd (sR_parts (nI (b (p + 1) - 48)) (nI (b (p + 2) - 48)) M) fun v4 M3 => if v4 < 0 then (some ((0 : Int32), M3)) else (some ((1 : Int32), M3))) else (pm_bd (sR_home (nI (b (p + 1) - 48)) (nI (b (p + 2) - 48)) M) fun v6 M5 => if v6 = (-2 : Int32) then (some ((0 : Int32), M5)) else (some ((1 : Int32), M5)))) else (pm_bd (sR_route (nI (b (p + 1) - 48)) (nI (b (p + 2) - 48)) (M.1 58 (4 * c + 2)) (M.1 58 (4 * c + 3)) M) fun v8 M7 => if v8 < 0 then (some ((0 : Int32), M7)) else (some ((1 : Int32), M7)))) else (pm_bd (sR_station (nI (b (p + 1) - 48)) (nI (b (p + 2) - 48)) (M.1 58 (4 * c + 2)) M) fun v10 M9 => if v10 < 0 then (some ((0 : Int32), M9)) else (some ((1 : Int32), M9)))) := by
    unfold sR_isDone
    rw [a0, q1, q2, show (3 : Int32) = nI 3 from rfl, qI_add, qI_add, qI_add]
    simp only [eq_true in24, eq_true in0, eq_true in1, eq_true in2, eq_true in3, if_true, nI_cl c (show c < 2 ^ 31 by omega), nI_cl (4 * c) (show 4 * c < 2 ^ 31 by omega), nI_cl (4 * c + 1) (show 4 * c + 1 < 2 ^ 31 by omega), nI_cl (4 * c + 2) (show 4 * c + 2 < 2 ^ 31 by omega), nI_cl (4 * c + 3) (show 4 * c + 3 < 2 ^ 31 by omega), q_lt, w1, w2, h1]
  rw [show (115 : Int32) = nI 115 from rfl, show (114 : Int32) = nI 114 from rfl, show (104 : Int32) = nI 104 from rfl] at eo
  unfold scl
  by_cases z1 : b p = 104
  · rw [if_pos z1]
    obtain ⟨M', y1, y2⟩ := R_home hd hR (nI (b (p + 1) - 48)) (nI (b (p + 2) - 48))
    refine ⟨M', ?_, y2⟩
    rw [eo, if_pos (fun q => by have := (e 115 (by omega)).mp q; omega), if_pos (fun q => by have := (e 114 (by omega)).mp q; omega), if_neg (fun q => q ((e 104 (by omega)).mpr z1)), y1, q_bd]
    by_cases u : (sp_home d (nI (b (p + 1) - 48)) (nI (b (p + 2) - 48))).1 = -2
    · rw [if_pos u, if_pos u]
    · rw [if_neg u, if_neg u]
  rw [if_neg z1]
  by_cases z2 : b p = 114
  · rw [if_pos z2]
    have t5 : tsz (b p) = 5 := by unfold tsz; rw [if_neg z1, if_neg (by omega), if_pos z2]
    have w3 : M.1 58 (4 * c + 2) = nI (b (p + 3) - 48) := h2 2 (by omega)
    have w4 : M.1 58 (4 * c + 3) = nI (b (p + 4) - 48) := h2 3 (by omega)
    refine qRe_map (φ := fl0) (R_route hd hR _ _ _ _) ?_
    rw [eo, if_pos (fun q => by have := (e 115 (by omega)).mp q; omega), if_neg (fun q => q ((e 114 (by omega)).mpr z2)), w3, w4]
    simp only [hfl]
  rw [if_neg z2]
  by_cases z3 : b p = 115
  · rw [if_pos z3]
    have t5 : tsz (b p) = 4 := by unfold tsz; rw [if_neg z1, if_neg (by omega), if_neg z2, if_pos z3]
    have w3 : M.1 58 (4 * c + 2) = nI (b (p + 3) - 48) := h2 2 (by omega)
    refine qRe_map (φ := fl0) (R_station hd hR _ _ _) ?_
    rw [eo, if_neg (fun q => q ((e 115 (by omega)).mpr z3)), w3]
    simp only [hfl]
  rw [if_neg z3]
  refine qRe_map (φ := fl0) (R_parts hd hR _ _) ?_
  rw [eo, if_pos (fun q => z3 ((e 115 (by omega)).mp q)), if_pos (fun q => z2 ((e 114 (by omega)).mp q)), if_pos (fun q => z1 ((e 104 (by omega)).mp q))]
  simp only [hfl]
theorem tdg_none {b : Nat → Nat} {n p : Nat} : ∀ m j, tdg b n p m j = none → ∀ i, i < m → tok b n (p + j + i)
  | 0, _, _, i, hi => by omega
  | m + 1, j, h, i, hi => by
    unfold tdg at h
    by_cases z : p + j < n ∧ 48 ≤ b (p + j) ∧ b (p + j) ≤ 57
    · rw [if_pos z] at h
      cases i with
      | zero => exact z
      | succ i =>
        have := tdg_none m (j + 1) h i (by omega)
        rwa [show p + j + (i + 1) = p + (j + 1) + i by omega]
    · rw [if_neg z] at h
      cases h
theorem clf_none {b : Nat → Nat} {n p : Nat} (h : clf b n p = none) : p < n ∧ tsz (b p) ≠ 0 ∧ p + tsz (b p) ≤ n ∧ ∀ j, j + 1 < tsz (b p) → tok b n (p + 1 + j) := by
  unfold clf at h
  split at h
  · cases h
  · rename_i z
    split at h
    · cases h
    · rename_i w
      have t3 := tsz_2 w
      have := tdg_n _ _ (by omega) h
      exact ⟨by omega, w, by omega, fun j hj => tdg_none _ _ h j (by omega)⟩
