/-! TELLING: station, time, becomes, route, home, parts, each side by itself -/
def qCt (d' : qD) (M M' : pm_M) : Prop := qC M' d' ∧ (∀ b, b ∉ [1, 2, 3, 4, 5, 6, 16, 17, 18, 21, 23, 24, 30, 32, 35] → M'.1 b = M.1 b) ∧ (∀ b, b ∉ [19, 20, 22, 25] → M'.2 b = M.2 b) ∧ qTo M' d' ∧ qSt M' d' (qdd d') ∧ M'.1 23 3 = 0 ∧ M'.1 30 0 = 0 ∧ M'.1 30 1 = 0 ∧ M'.1 30 3 = 0 ∧ (∀ k, k ≠ 0 → k ≠ 1 → k ≠ 3 → M'.1 30 k = M.1 30 k) ∧ (∀ k, k < 5 → M'.1 32 k = 0) ∧ ∀ k, k < 10 → M'.1 35 k = 0
def qRt (d' : qD) (M M' : pm_M) : Prop := qR M' d' ∧ (∀ b, b ∉ [49, 50, 51, 52, 53, 54, 66, 69] → M'.1 b = M.1 b) ∧ M'.2 = M.2 ∧ M'.1 49 22 = 0 ∧ M'.1 49 23 = 0 ∧ (∀ k, k ≠ 1 → k ≠ 22 → k ≠ 23 → M'.1 49 k = M.1 49 k) ∧ (∀ k, k < 5 → M'.1 66 k = 0) ∧ ∀ k, k < 10 → M'.1 69 k = 0
/-- the net is told, the class's side: what is written, and what follows -/
theorem C_told' {d' : qD} {M N : pm_M} (hd' : qOK d') (hC : qC N d') (e1 : ∀ b, b ∉ [1, 2, 3, 4, 5, 6] → N.1 b = M.1 b) (e2 : N.2 = M.2) : ∃ M', sC_netTold N = some M' ∧ qCt d' M M' := by
  obtain ⟨M', e, f1, f2, f3, f4, f5, f6, f7, f8, f9, f10, f11⟩ := C_netTold hd' hC
  refine ⟨M', e, qC_of hC (fun b hb => f1 b ?_), fun b hb => ?_, fun b hb => by rw [f2 b hb, e2], f3, f4, f5, f6, f7, f8, fun k h1 h2 h3 => by rw [f9 k h1 h2 h3, e1 30 (by decide)], f10, f11⟩
  · simp only [List.mem_cons, List.not_mem_nil, or_false, not_or]
    omega
  · simp only [List.mem_cons, List.not_mem_nil, or_false, not_or] at hb
    rw [f1 b (by simp only [List.mem_cons, List.not_mem_nil, or_false, not_or]; omega), e1 b (by simp only [List.mem_cons, List.not_mem_nil, or_false, not_or]; omega)]
theorem R_told' {d' : qD} {M N : pm_M} (hR : qR N d') (e1 : ∀ b, b ∉ [49, 50, 51, 52, 53, 54] → N.1 b = M.1 b) (e3 : ∀ k, k ≠ 1 → N.1 49 k = M.1 49 k) (e2 : N.2 = M.2) : ∃ M', sR_ends N = some M' ∧ qRt d' M M' := by
  obtain ⟨M', e, f1, f2, f3, f4, f5, f6, f7⟩ := R_ends N
  refine ⟨M', e, qR_of hR (f5 1 (by decide) (by decide)) (fun b h1 h2 => f1 b (by simp only [List.mem_cons, List.not_mem_nil, or_false, not_or]; omega)), fun b hb => ?_, by rw [f2, e2], f3, f4, fun k h1 h2 h3 => by rw [f5 k h2 h3, e3 k h1], f6, f7⟩
  simp only [List.mem_cons, List.not_mem_nil, or_false, not_or] at hb
  rw [f1 b (by simp only [List.mem_cons, List.not_mem_nil, or_false, not_or]; omega), e1 b (by simp only [List.mem_cons, List.not_mem_nil, or_false, not_or]; omega)]
/-- what a telling call comes to: its answer, and the net that is told (none: refused) -/
def qCe (f : pm_M → Option (Int32 × pm_M)) (r : Int32 × Option qD) (M : pm_M) : Prop := ∃ M', f M = some (r.1, M') ∧ (match r.2 with | none => M' = M | some d' => qOK d' ∧ qCt d' M M')
def qRe (f : pm_M → Option (Int32 × pm_M)) (r : Int32 × Option qD) (M : pm_M) : Prop := ∃ M', f M = some (r.1, M') ∧ (match r.2 with | none => M' = M | some d' => qRt d' M M')
theorem pm_tx {x : Int32} (h : pm_tm x) : ∃ k, 1 ≤ k ∧ k ≤ 9 ∧ x = nI k := by
  have h0 : ¬ x < 0 := fun q => h.1 (Int32.lt_trans q (by decide))
  obtain ⟨k, hk, rfl⟩ := nI_ex h0
  refine ⟨k, ?_, ?_, rfl⟩
  · have := h.1
    rw [q1, nI_lt_iff hk (by omega)] at this
    omega
  · have := h.2
    rw [q9, nI_lt_iff (by omega) hk] at this
    omega
theorem nI_cl (k : Nat) (h : k < 2 ^ 31) : (nI k).toNatClampNeg = k := nI_clamp h
theorem upd_fn (F : Nat → Int32) (f : Nat → Nat) (k x : Nat) (h : ∀ j, F j = nI (f j)) : ∀ j, upd F k (nI x) j = nI (fupd f k x j) := fun j => by
  unfold upd fupd
  by_cases q : j = k
  · rw [if_pos q, if_pos q]
  · rw [if_neg q, if_neg q]; exact h j
/-! time -/
def sp_time (d : qD) (s c t : Int32) : Int32 × Option qD := if pm_in s (qS d) ∧ pm_in c 2 ∧ pm_tm t then (nI (qT d (5 * c.toNatClampNeg + s.toNatClampNeg)), some (qS d, qK d, fupd (qT d) (5 * c.toNatClampNeg + s.toNatClampNeg) t.toNatClampNeg, qH d, qP d, qW d)) else (-2, none)
theorem sp_time_ok {d : qD} (hd : qOK d) {s c t : Nat} (hs : s < qS d) (hc : c < 2) (h1 : 1 ≤ t) (h9 : t ≤ 9) : qOK (qS d, qK d, fupd (qT d) (5 * c + s) t, qH d, qP d, qW d) := by
  obtain ⟨a1, a2, a3, a4, a5, a6, a7, a8, a9⟩ := hd
  refine ⟨a1, a2, fun k => ?_, fun c' s' hc' hs' => ?_, a5, a6, a7, a8, a9⟩
  · show fupd (qT d) (5 * c + s) t k ≤ 9
    unfold fupd
    split
    · exact h9
    · exact a3 k
  · show 1 ≤ fupd (qT d) (5 * c + s) t (5 * c' + s')
    unfold fupd
    split
    · exact h1
    · exact a4 c' s' hc' hs'
theorem C_time {d : qD} {M : pm_M} (hd : qOK d) (h : qC M d) (s c t : Int32) : qCe (sC_time s c t) (sp_time d s c t) M := by
  have hS := hd.1
  unfold qCe sp_time sC_time
  rw [Net_hasStation hd h, q_bd]
  by_cases i1 : pm_in s (qS d)
  case neg =>
    rw [b2i_f i1, if_pos rfl, if_neg (fun q => i1 q.1)]
    exact ⟨M, rfl, rfl⟩
  rw [b2i_t i1, if_neg (by decide), C_isClass, q_bd]
  by_cases i2 : pm_in c 2
  case neg =>
    rw [b2i_f i2, if_pos rfl, if_neg (fun q => i2 q.2.1)]
    exact ⟨M, rfl, rfl⟩
  rw [b2i_t i2, if_neg (by decide), C_isTime, q_bd]
  by_cases i3 : pm_tm t
  case neg =>
    rw [b2i_f i3, if_neg (fun q => q rfl), if_neg (fun q => i3 q.2.2)]
    exact ⟨M, rfl, rfl⟩
  rw [b2i_t i3, if_pos (by decide), if_pos (show pm_in s (qS d) ∧ pm_in c 2 ∧ pm_tm t from ⟨i1, i2, i3⟩)]
  obtain ⟨s, hs, -, rfl⟩ := pm_kx i1
  obtain ⟨c, hc, -, rfl⟩ := pm_kx i2
  obtain ⟨t, ht1, ht9, rfl⟩ := pm_tx i3
  have hin : pm_in (nI (5 * c + s)) 10 := by rw [nI_in_iff (by omega)]; omega
  rw [qcs', if_pos hin, q_lt, if_pos hin, q_lt, nI_cl _ (by omega), nI_cl _ (by omega), nI_cl _ (by omega), nI_cl _ (by omega), h.2.2.1, sI_u]
  obtain ⟨M', e, k⟩ := C_told' (M := M) (sp_time_ok hd hs hc ht1 ht9) (N := mu_I M 3 (upd (M.1 3) (5 * c + s) (nI t))) ⟨h.1, h.2.1, fun k => by rw [uI_a]; exact upd_fn _ _ _ _ h.2.2.1 k, h.2.2.2.1, h.2.2.2.2.1, h.2.2.2.2.2⟩ (fun b hb => uI_0 _ _ _ _ (fun q => hb (by rw [q]; decide))) rfl
  rw [e, q_bv]
  exact ⟨M', rfl, sp_time_ok hd hs hc ht1 ht9, k⟩
theorem R_time {d : qD} {M : pm_M} (hd : qOK d) (h : qR M d) (s c t : Int32) : qRe (sR_time s c t) (sp_time d s c t) M := by
  have hS := hd.1
  unfold qRe sp_time sR_time
  rw [R_isStation hd h, q_bd]
  by_cases i1 : pm_in s (qS d)
  case neg =>
    rw [b2i_f i1, if_pos rfl, if_neg (fun q => i1 q.1)]
    exact ⟨M, rfl, rfl⟩
  rw [b2i_t i1, if_neg (by decide), R_isPart, q_bd]
  by_cases i2 : pm_in c 2
  case neg =>
    rw [b2i_f i2, if_pos rfl, if_neg (fun q => i2 q.2.1)]
    exact ⟨M, rfl, rfl⟩
  rw [b2i_t i2, if_neg (by decide), R_in19, q_bd]
  by_cases i3 : pm_tm t
  case neg =>
    rw [b2i_f i3, if_neg (fun q => q rfl), if_neg (fun q => i3 q.2.2)]
    exact ⟨M, rfl, rfl⟩
  rw [b2i_t i3, if_pos (by decide), if_pos (show pm_in s (qS d) ∧ pm_in c 2 ∧ pm_tm t from ⟨i1, i2, i3⟩)]
  obtain ⟨s, hs, -, rfl⟩ := pm_kx i1
  obtain ⟨c, hc, -, rfl⟩ := pm_kx i2
  obtain ⟨t, ht1, ht9, rfl⟩ := pm_tx i3
  have hin : pm_in (nI (5 * c + s)) 10 := by rw [nI_in_iff (by omega)]; omega
  rw [qcs, if_pos hin, q_lt, if_pos hin, q_lt, nI_cl _ (by omega), nI_cl _ (by omega), nI_cl _ (by omega), nI_cl _ (by omega), h.2.2.1, sI_u]
  obtain ⟨M', e, k⟩ := R_told' (M := M) (d' := (qS d, qK d, fupd (qT d) (5 * c + s) t, qH d, qP d, qW d)) (N := mu_I M 51 (upd (M.1 51) (5 * c + s) (nI t))) ⟨h.1, h.2.1, fun k => by rw [uI_a]; exact upd_fn _ _ _ _ h.2.2.1 k, h.2.2.2.1, h.2.2.2.2.1, h.2.2.2.2.2⟩ (fun b hb => uI_0 _ _ _ _ (fun q => hb (by rw [q]; decide))) (fun k _ => rfl) rfl
  rw [e, q_bv]
  exact ⟨M', rfl, k⟩
/-! becomes -/
def sp_becomes (d : qD) (s k : Int32) : Int32 × Option qD := if pm_in s (qS d) ∧ pm_in k 4 then (nI (qK d s.toNatClampNeg), some (qS d, fupd (qK d) s.toNatClampNeg k.toNatClampNeg, qT d, qH d, qP d, qW d)) else (-2, none)
theorem sp_becomes_ok {d : qD} (hd : qOK d) (s : Nat) {k : Nat} (hk : k ≤ 3) : qOK (qS d, fupd (qK d) s k, qT d, qH d, qP d, qW d) := by
  obtain ⟨a1, a2, a3, a4, a5, a6, a7, a8, a9⟩ := hd
  refine ⟨a1, fun j => ?_, a3, a4, a5, a6, a7, a8, a9⟩
  show fupd (qK d) s k j ≤ 3
  unfold fupd
  split
  · exact hk
  · exact a2 j
theorem C_becomes {d : qD} {M : pm_M} (hd : qOK d) (h : qC M d) (s k : Int32) : qCe (sC_becomes s k) (sp_becomes d s k) M := by
  have hS := hd.1
  unfold qCe sp_becomes sC_becomes
  rw [Net_hasStation hd h, q_bd]
  by_cases i1 : pm_in s (qS d)
  case neg =>
    rw [b2i_f i1, if_pos rfl, if_neg (fun q => i1 q.1)]
    exact ⟨M, rfl, rfl⟩
  rw [b2i_t i1, if_neg (by decide), C_isKind, q_bd]
  by_cases i2 : pm_in k 4
  case neg =>
    rw [b2i_f i2, if_neg (fun q => q rfl), if_neg (fun q => i2 q.2)]
    exact ⟨M, rfl, rfl⟩
  rw [b2i_t i2, if_pos (by decide), if_pos (show pm_in s (qS d) ∧ pm_in k 4 from ⟨i1, i2⟩)]
  obtain ⟨s, hs, -, rfl⟩ := pm_kx i1
  obtain ⟨k, hk, -, rfl⟩ := pm_kx i2
  have hin : pm_in (nI s) 5 := by rw [nI_in_iff (by omega)]; omega
  rw [if_pos hin, q_lt, if_pos hin, q_lt, nI_cl _ (by omega), nI_cl _ (by omega), h.2.1, sI_u]
  obtain ⟨M', e, z⟩ := C_told' (M := M) (sp_becomes_ok hd s (show k ≤ 3 by omega)) (N := mu_I M 2 (upd (M.1 2) s (nI k))) ⟨h.1, fun j => by rw [uI_a]; exact upd_fn _ _ _ _ h.2.1 j, h.2.2.1, h.2.2.2.1, h.2.2.2.2.1, h.2.2.2.2.2⟩ (fun b hb => uI_0 _ _ _ _ (fun q => hb (by rw [q]; decide))) rfl
  rw [e, q_bv]
  exact ⟨M', rfl, sp_becomes_ok hd s (show k ≤ 3 by omega), z⟩
theorem R_becomes {d : qD} {M : pm_M} (hd : qOK d) (h : qR M d) (s k : Int32) : qRe (sR_becomes s k) (sp_becomes d s k) M := by
  have hS := hd.1
  unfold qRe sp_becomes sR_becomes
  rw [R_isStation hd h, q_bd]
  by_cases i1 : pm_in s (qS d)
  case neg =>
    rw [b2i_f i1, if_pos rfl, if_neg (fun q => i1 q.1)]
    exact ⟨M, rfl, rfl⟩
  rw [b2i_t i1, if_neg (by decide), R_in03, q_bd]
  by_cases i2 : pm_in k 4
  case neg =>
    rw [b2i_f i2, if_neg (fun q => q rfl), if_neg (fun q => i2 q.2)]
    exact ⟨M, rfl, rfl⟩
  rw [b2i_t i2, if_pos (by decide), if_pos (show pm_in s (qS d) ∧ pm_in k 4 from ⟨i1, i2⟩)]
  obtain ⟨s, hs, -, rfl⟩ := pm_kx i1
  obtain ⟨k, hk, -, rfl⟩ := pm_kx i2
  have hin : pm_in (nI s) 5 := by rw [nI_in_iff (by omega)]; omega
  rw [if_pos hin, q_lt, if_pos hin, q_lt, nI_cl _ (by omega), nI_cl _ (by omega), h.2.1, sI_u]
  obtain ⟨M', e, z⟩ := R_told' (M := M) (d' := (qS d, fupd (qK d) s k, qT d, qH d, qP d, qW d)) (N := mu_I M 50 (upd (M.1 50) s (nI k))) ⟨h.1, fun j => by rw [uI_a]; exact upd_fn _ _ _ _ h.2.1 j, h.2.2.1, h.2.2.2.1, h.2.2.2.2.1, h.2.2.2.2.2⟩ (fun b hb => uI_0 _ _ _ _ (fun q => hb (by rw [q]; decide))) (fun k _ => rfl) rfl
  rw [e, q_bv]
  exact ⟨M', rfl, z⟩
/-! home -/
def sp_home (d : qD) (c s : Int32) : Int32 × Option qD := if pm_in c 2 ∧ pm_in s (qS d) then (hI (qH d c.toNatClampNeg), some (qS d, qK d, qT d, fupd (qH d) c.toNatClampNeg (s.toNatClampNeg + 1), qP d, qW d)) else (-2, none)
theorem sp_home_ok {d : qD} (hd : qOK d) (c : Nat) {s : Nat} (hs : s < qS d) : qOK (qS d, qK d, qT d, fupd (qH d) c (s + 1), qP d, qW d) := by
  obtain ⟨a1, a2, a3, a4, a5, a6, a7, a8, a9⟩ := hd
  refine ⟨a1, a2, a3, a4, fun j hj => ?_, a6, a7, a8, a9⟩
  show fupd (qH d) c (s + 1) j ≤ qS d
  unfold fupd
  split
  · omega
  · exact a5 j hj
theorem upd_hn (F : Nat → Int32) (f : Nat → Nat) (k x : Nat) (h : ∀ j, F j = hI (f j)) : ∀ j, upd F k (nI x) j = hI (fupd f k (x + 1) j) := fun j => by
  unfold upd fupd
  by_cases q : j = k
  · rw [if_pos q, if_pos q]; rfl
  · rw [if_neg q, if_neg q]; exact h j
theorem C_home {d : qD} {M : pm_M} (hd : qOK d) (h : qC M d) (c s : Int32) : qCe (sC_home c s) (sp_home d c s) M := by
  have hS := hd.1
  unfold qCe sp_home sC_home
  rw [C_isClass, q_bd]
  by_cases i1 : pm_in c 2
  case neg =>
    rw [b2i_f i1, if_pos rfl, if_neg (fun q => i1 q.1)]
    exact ⟨M, rfl, rfl⟩
  rw [b2i_t i1, if_neg (by decide), Net_hasStation hd h, q_bd]
  by_cases i2 : pm_in s (qS d)
  case neg =>
    rw [b2i_f i2, if_neg (fun q => q rfl), if_neg (fun q => i2 q.2)]
    exact ⟨M, rfl, rfl⟩
  rw [b2i_t i2, if_pos (by decide), if_pos (show pm_in c 2 ∧ pm_in s (qS d) from ⟨i1, i2⟩), if_pos i1, q_lt, if_pos i1, q_lt]
  obtain ⟨c, hc, -, rfl⟩ := pm_kx i1
  obtain ⟨s, hs, -, rfl⟩ := pm_kx i2
  rw [nI_cl _ (by omega), nI_cl _ (by omega), h.2.2.2.1, sI_u]
  obtain ⟨M', e, z⟩ := C_told' (M := M) (sp_home_ok hd c hs) (N := mu_I M 4 (upd (M.1 4) c (nI s))) ⟨h.1, h.2.1, h.2.2.1, fun j => by rw [uI_a]; exact upd_hn _ _ _ _ h.2.2.2.1 j, h.2.2.2.2.1, h.2.2.2.2.2⟩ (fun b hb => uI_0 _ _ _ _ (fun q => hb (by rw [q]; decide))) rfl
  rw [e, q_bv]
  exact ⟨M', rfl, sp_home_ok hd c hs, z⟩
theorem R_home {d : qD} {M : pm_M} (hd : qOK d) (h : qR M d) (c s : Int32) : qRe (sR_home c s) (sp_home d c s) M := by
  have hS := hd.1
  unfold qRe sp_home sR_home
  rw [R_isPart, q_bd]
  by_cases i1 : pm_in c 2
  case neg =>
    rw [b2i_f i1, if_pos rfl, if_neg (fun q => i1 q.1)]
    exact ⟨M, rfl, rfl⟩
  rw [b2i_t i1, if_neg (by decide), R_isStation hd h, q_bd]
  by_cases i2 : pm_in s (qS d)
  case neg =>
    rw [b2i_f i2, if_neg (fun q => q rfl), if_neg (fun q => i2 q.2)]
    exact ⟨M, rfl, rfl⟩
  rw [b2i_t i2, if_pos (by decide), if_pos (show pm_in c 2 ∧ pm_in s (qS d) from ⟨i1, i2⟩), if_pos i1, q_lt, if_pos i1, q_lt]
  obtain ⟨c, hc, -, rfl⟩ := pm_kx i1
  obtain ⟨s, hs, -, rfl⟩ := pm_kx i2
  rw [nI_cl _ (by omega), nI_cl _ (by omega), h.2.2.2.1, sI_u]
  obtain ⟨M', e, z⟩ := R_told' (M := M) (d' := (qS d, qK d, qT d, fupd (qH d) c (s + 1), qP d, qW d)) (N := mu_I M 52 (upd (M.1 52) c (nI s))) ⟨h.1, h.2.1, h.2.2.1, fun j => by rw [uI_a]; exact upd_hn _ _ _ _ h.2.2.2.1 j, h.2.2.2.2.1, h.2.2.2.2.2⟩ (fun b hb => uI_0 _ _ _ _ (fun q => hb (by rw [q]; decide))) (fun k _ => rfl) rfl
  rw [e, q_bv]
  exact ⟨M', rfl, z⟩
/-! parts -/
def sp_parts (d : qD) (c n : Int32) : Int32 × Option qD := if pm_in c 2 ∧ pm_in n 7 then (if n.toNatClampNeg + qP d (1 - c.toNatClampNeg) ≤ 8 then (nI (qP d c.toNatClampNeg), some (qS d, qK d, qT d, qH d, fupd (qP d) c.toNatClampNeg n.toNatClampNeg, qW d)) else (-4, none)) else (-2, none)
theorem sp_parts_ok {d : qD} (hd : qOK d) {c n : Nat} (hc : c < 2) (hn : n ≤ 6) (h8 : n + qP d (1 - c) ≤ 8) : qOK (qS d, qK d, qT d, qH d, fupd (qP d) c n, qW d) := by
  obtain ⟨a1, a2, a3, a4, a5, a6, a7, a8, a9⟩ := hd
  refine ⟨a1, a2, a3, a4, a5, fun j => ?_, ?_, a8, a9⟩
  · show fupd (qP d) c n j ≤ 6
    unfold fupd
    split
    · exact hn
    · exact a6 j
  · show fupd (qP d) c n 0 + fupd (qP d) c n 1 ≤ 8
    rcases (show c = 0 ∨ c = 1 by omega) with rfl | rfl
    · rw [fupd_at, fupd_ne _ _ (show 1 ≠ 0 by decide)]; exact h8
    · rw [fupd_at, fupd_ne _ _ (show 0 ≠ 1 by decide)]
      have h8' : n + qP d 0 ≤ 8 := h8
      omega
theorem C_parts {d : qD} {M : pm_M} (hd : qOK d) (h : qC M d) (c n : Int32) : qCe (sC_parts c n) (sp_parts d c n) M := by
  have hS := hd.1
  unfold qCe sp_parts sC_parts
  rw [C_isClass, q_bd]
  by_cases i1 : pm_in c 2
  case neg =>
    rw [b2i_f i1, if_pos rfl, if_neg (fun q => i1 q.1)]
    exact ⟨M, rfl, rfl⟩
  rw [b2i_t i1, if_neg (by decide)]
  by_cases i2 : pm_in n 7
  case neg =>
    rw [if_neg (show ¬ (pm_in c 2 ∧ pm_in n 7) from fun q => i2 q.2)]
    by_cases z : n < 0
    · rw [if_pos z]
      exact ⟨M, rfl, rfl⟩
    · rw [if_neg z, if_neg (Int32.not_le.mpr (show (6 : Int32) < n from pm_hi (n := 6) (by omega) i2 z))]
      exact ⟨M, rfl, rfl⟩
  obtain ⟨c, hc, -, rfl⟩ := pm_kx i1
  have i12 := i2
  obtain ⟨n, hn, -, rfl⟩ := pm_kx i2
  have hP := hd.2.2.2.2.2.1 (1 - c)
  have e1 : (1 : Int32) - nI c = nI (1 - c) := by rw [q1, nI_sub (by omega)]
  have j1 : pm_in (nI (1 - c)) 2 := by rw [nI_in_iff (by omega)]; omega
  rw [if_pos (show pm_in (nI c) 2 ∧ pm_in (nI n) 7 from ⟨i1, i12⟩), if_neg (nI_nneg (by omega)), if_pos (by rw [q6, nI_le_iff (by omega) (by omega)]; omega), e1, if_pos j1, nI_cl (1 - c) (by omega), h.2.2.2.2.1, qI_add, nI_cl n (by omega)]
  by_cases z : n + qP d (1 - c) ≤ 8
  · rw [if_pos (by rw [show (8 : Int32) = nI 8 from rfl, nI_le_iff (by omega) (by omega)]; exact z), if_pos (show n + qP d (1 - (nI c).toNatClampNeg) ≤ 8 by rw [nI_cl c (by omega)]; exact z), if_pos i1, q_lt, if_pos i1, q_lt, nI_cl c (by omega), h.2.2.2.2.1, sI_u]
    obtain ⟨M', e, y⟩ := C_told' (M := M) (sp_parts_ok hd hc (show n ≤ 6 by omega) z) (N := mu_I M 5 (upd (M.1 5) c (nI n))) ⟨h.1, h.2.1, h.2.2.1, h.2.2.2.1, fun j => by rw [uI_a]; exact upd_fn _ _ _ _ h.2.2.2.2.1 j, h.2.2.2.2.2⟩ (fun b hb => uI_0 _ _ _ _ (fun q => hb (by rw [q]; decide))) rfl
    rw [e, q_bv]
    exact ⟨M', rfl, sp_parts_ok hd hc (show n ≤ 6 by omega) z, y⟩
  · rw [if_neg (by rw [show (8 : Int32) = nI 8 from rfl, nI_le_iff (by omega) (by omega)]; exact z), if_neg (show ¬ n + qP d (1 - (nI c).toNatClampNeg) ≤ 8 by rw [nI_cl c (by omega)]; exact z)]
    exact ⟨M, rfl, rfl⟩
theorem R_parts {d : qD} {M : pm_M} (hd : qOK d) (h : qR M d) (c n : Int32) : qRe (sR_parts c n) (sp_parts d c n) M := by
  have hS := hd.1
  unfold qRe sp_parts sR_parts
  rw [R_isPart, q_bd]
  by_cases i1 : pm_in c 2
  case neg =>
    rw [b2i_f i1, if_pos rfl, if_neg (fun q => i1 q.1)]
    exact ⟨M, rfl, rfl⟩
  rw [b2i_t i1, if_neg (by decide), R_in06, q_bd]
  by_cases i2 : pm_in n 7
  case neg =>
    rw [b2i_f i2, if_neg (fun q => q rfl), if_neg (show ¬ (pm_in c 2 ∧ pm_in n 7) from fun q => i2 q.2)]
    exact ⟨M, rfl, rfl⟩
  rw [b2i_t i2, if_pos (by decide)]
  obtain ⟨c, hc, -, rfl⟩ := pm_kx i1
  have i12 := i2
  obtain ⟨n, hn, -, rfl⟩ := pm_kx i2
  have hP := hd.2.2.2.2.2.1 (1 - c)
  have e1 : (1 : Int32) - nI c = nI (1 - c) := by rw [q1, nI_sub (by omega)]
  have j1 : pm_in (nI (1 - c)) 2 := by rw [nI_in_iff (by omega)]; omega
  rw [if_pos (show pm_in (nI c) 2 ∧ pm_in (nI n) 7 from ⟨i1, i12⟩), e1, if_pos j1, nI_cl (1 - c) (by omega), h.2.2.2.2.1, qI_add, nI_cl n (by omega)]
  by_cases z : n + qP d (1 - c) ≤ 8
  · rw [if_pos (by rw [show (8 : Int32) = nI 8 from rfl, nI_le_iff (by omega) (by omega)]; exact z), if_pos (show n + qP d (1 - (nI c).toNatClampNeg) ≤ 8 by rw [nI_cl c (by omega)]; exact z), if_pos i1, q_lt, if_pos i1, q_lt, nI_cl c (by omega), h.2.2.2.2.1, sI_u]
    obtain ⟨M', e, y⟩ := R_told' (M := M) (d' := (qS d, qK d, qT d, qH d, fupd (qP d) c n, qW d)) (N := mu_I M 53 (upd (M.1 53) c (nI n))) ⟨h.1, h.2.1, h.2.2.1, h.2.2.2.1, fun j => by rw [uI_a]; exact upd_fn _ _ _ _ h.2.2.2.2.1 j, h.2.2.2.2.2⟩ (fun b hb => uI_0 _ _ _ _ (fun q => hb (by rw [q]; decide))) (fun k _ => rfl) rfl
    rw [e, q_bv]
    exact ⟨M', rfl, y⟩
  · rw [if_neg (by rw [show (8 : Int32) = nI 8 from rfl, nI_le_iff (by omega) (by omega)]; exact z), if_neg (show ¬ n + qP d (1 - (nI c).toNatClampNeg) ≤ 8 by rw [nI_cl c (by omega)]; exact z)]
    exact ⟨M, rfl, rfl⟩
