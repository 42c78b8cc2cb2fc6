/-! TRUTH BEGINS -/
def bhm (d : qD) (j : Nat) : Nat := qH d (xcl (qP d 0) j) - 1
def bgl (d : qD) : Nat → Nat → List (Nat × Nat)
  | _, 0 => []
  | k, n + 1 => (k, bhm d k) :: bgl d (k + 1) n
def xbg (d : qD) : Nat → qXs
  | 0 => (fun _ => [], fun _ => 0, bgl d 0 (qP d 0 + qP d 1), fun _ => 0)
  | k + 1 => xadd d k (bhm d k) (xQ (xbg d k), xR (xbg d k), bgl d (k + 1) (qP d 0 + qP d 1 - (k + 1)), xP (xbg d k))
theorem bgl_len (d : qD) : ∀ n k, (bgl d k n).length = n
  | 0, _ => rfl
  | n + 1, k => by
    show (bgl d (k + 1) n).length + 1 = n + 1
    rw [bgl_len d n (k + 1)]
theorem bgl_mem (d : qD) (y : Nat × Nat) : ∀ n k, y ∈ bgl d k n → k ≤ y.1 ∧ y.1 < k + n ∧ y.2 = bhm d y.1
  | 0, _, h => by cases h
  | n + 1, k, h => by
    rcases List.mem_cons.mp h with e | e
    · rw [e]
      exact ⟨Nat.le_refl k, by show k < k + (n + 1); omega, rfl⟩
    · obtain ⟨a, b, c⟩ := bgl_mem d y n (k + 1) e
      exact ⟨by omega, by omega, c⟩
theorem bgl_cnt (d : qD) (x : Nat) : ∀ n k, ((bgl d k n).map Prod.fst).count x = if k ≤ x ∧ x < k + n then 1 else 0
  | 0, k => by
    rw [if_neg (by omega)]
    rfl
  | n + 1, k => by
    show (k :: (bgl d (k + 1) n).map Prod.fst).count x = _
    rw [List.count_cons, bgl_cnt d x n (k + 1)]
    by_cases e : k = x
    · rw [if_pos (show (k == x) = true from beq_iff_eq.mpr e), if_neg (by omega), if_pos (by omega)]
    · rw [if_neg (show ¬ (k == x) = true from fun q => e (beq_iff_eq.mp q))]
      by_cases q : k + 1 ≤ x ∧ x < k + 1 + n
      · rw [if_pos q, if_pos (by omega)]
      · rw [if_neg q, if_neg (by omega)]
theorem xbg_L (d : qD) : ∀ k, xL (xbg d k) = bgl d k (qP d 0 + qP d 1 - k)
  | 0 => rfl
  | _ + 1 => rfl
theorem xbg_P (d : qD) : ∀ k i, xP (xbg d k) i = 0
  | 0, _ => rfl
  | k + 1, i => xbg_P d k i
theorem bhm_in {d : qD} (hs : qsnd d) {j : Nat} (hj : j < qP d 0 + qP d 1) : qH d (xcl (qP d 0) j) = bhm d j + 1 := by
  have hp : qP d (xcl (qP d 0) j) ≠ 0 := by
    unfold xcl
    by_cases q : qP d 0 ≤ j
    · rw [if_pos q]; omega
    · rw [if_neg q]; omega
  rcases qsnd_c hs (xcl_2 (qP d 0) j) with q | q
  · exact absurd q hp
  · obtain ⟨h, e, -⟩ := q.1
    unfold bhm
    omega
theorem xbg_V {d : qD} (hd : qOK d) (hs : qsnd d) : ∀ k, k ≤ qP d 0 + qP d 1 → xV d (xbg d k)
  | 0, _ => by
    have h8 := hd.2.2.2.2.2.2.1
    refine ⟨fun s x hs5 hx => ?_, fun y hy => ?_, fun x => ?_, ?_⟩
    · have hx' : x ∈ ([] : List Nat) := hx
      cases hx'
    · obtain ⟨a, b, c⟩ := bgl_mem d y _ _ hy
      exact ⟨by omega, bhm d y.1, bhm_in hs (by omega), Or.inl c⟩
    · rw [xbg_L, bgl_cnt]
      show 0 + _ = _
      rw [Nat.zero_add]
      by_cases q : x < qP d 0 + qP d 1
      · rw [if_pos q, if_pos (by omega)]
      · rw [if_neg q, if_neg (by omega)]
    · rw [xbg_L, bgl_len]
      exact Nat.zero_add _
  | k + 1, hk => by
    have ih := xbg_V hd hs k (by omega)
    have hL : xL (xbg d k) = (k, bhm d k) :: bgl d (k + 1) (qP d 0 + qP d 1 - (k + 1)) := by
      rw [xbg_L, show qP d 0 + qP d 1 - k = qP d 0 + qP d 1 - (k + 1) + 1 by omega]
      rfl
    exact xadd_V hd hL ih (t := bhm d k) ⟨bhm d k, bhm_in hs (by omega), Or.inl rfl⟩
theorem xbg_k {d : qD} (hd : qOK d) (hs : qsnd d) {k : Nat} (hk : k < qP d 0 + qP d 1) : k < 8 ∧ bhm d k < qS d ∧ (∀ u, u < 5 → k ∉ xQ (xbg d k) u) ∧ (∀ u, u < 5 → (xQ (xbg d k) u).length ≤ 8) ∧ (xQ (xbg d k) (bhm d k)).length < 8 := by
  have h8 := hd.2.2.2.2.2.2.1
  have hV := xbg_V hd hs k (by omega)
  have hL : xL (xbg d k) = (k, bhm d k) :: bgl d (k + 1) (qP d 0 + qP d 1 - (k + 1)) := by
    rw [xbg_L, show qP d 0 + qP d 1 - k = qP d 0 + qP d 1 - (k + 1) + 1 by omega]
    rfl
  have hb : bhm d k < qS d := qin_S hd (xcl_2 (qP d 0) k) ⟨bhm d k, bhm_in hs hk, Or.inl rfl⟩
  have hS := hd.1
  refine ⟨by omega, hb, fun u hu hm => xuniL hV hu hm (k, bhm d k) (by rw [hL]; exact List.mem_cons_self) rfl, fun u hu => by have := xlen hd hV hu; omega, ?_⟩
  have := xlen hd hV (show bhm d k < 5 by omega)
  rw [hL] at this
  have e : ((k, bhm d k) :: bgl d (k + 1) (qP d 0 + qP d 1 - (k + 1))).length = (bgl d (k + 1) (qP d 0 + qP d 1 - (k + 1))).length + 1 := rfl
  omega
def bgC (d : qD) (M : pm_M) (k : Nat) (M' : pm_M) : Prop := (∀ b, b ∉ [30, 31, 32, 33, 34, 35] → M'.1 b = M.1 b) ∧ M'.2 = M.2 ∧ xC0 (qP d 0) M' (xbg d k) ∧ M'.1 30 1 = nI k ∧ M'.1 30 0 = 1 ∧ M'.1 30 3 = 0 ∧ M'.1 30 4 = M.1 30 4
def bgR (d : qD) (M : pm_M) (k : Nat) (M' : pm_M) : Prop := (∀ b, b ∉ [49, 66, 67, 68, 69] → M'.1 b = M.1 b) ∧ M'.2 = M.2 ∧ xM0 M' (xbg d k) ∧ M'.1 49 22 = 1 ∧ M'.1 49 23 = 0 ∧ ∀ k, k ≠ 22 → k ≠ 23 → M'.1 49 k = M.1 49 k
theorem bgC_step {d : qD} (hd : qOK d) (hs : qsnd d) {M0 M : pm_M} (hC : qC M0 d) {k : Nat} (hk : k < qP d 0 + qP d 1) (h : bgC d M0 k M) : ∃ M', sTruth_arrive (nI k) (nI (bhm d k)) (pm_sI M 30 1 (nI (k + 1))) = some M' ∧ bgC d M0 (k + 1) M' := by
  obtain ⟨b1, b2, b3, b4, b5, b6, b7⟩ := h
  obtain ⟨k1, k2, k3, k4, k5⟩ := xbg_k hd hs hk
  have o : ∀ b, b ≠ 30 → (pm_sI M 30 1 (nI (k + 1))).1 b = M.1 b := fun b hb => by rw [sI_1, if_neg hb]
  have o2 : ∀ j, j ≠ 1 → (pm_sI M 30 1 (nI (k + 1))).1 30 j = M.1 30 j := fun j hj => by
    rw [sI_1, if_pos rfl]
    unfold upd
    rw [if_neg hj]
  have o3 : (pm_sI M 30 1 (nI (k + 1))).1 30 1 = nI (k + 1) := by rw [sI_1, if_pos rfl, upd_at]
  obtain ⟨M', e, c1, c2, c3, -⟩ := Truth_arrive hd (qC_of hC (fun b hb => by rw [o b (by omega), b1 b (by simp only [List.mem_cons, List.not_mem_nil, or_false, not_or]; omega)])) (xC0_of b3 (fun b hb => o b (by intro q; rw [q] at hb; revert hb; decide)) (o2 2 (by decide))) k1 k2 k3 k4 k5
  refine ⟨M', e, fun b hb => ?_, by rw [c3]; exact b2, c1, by rw [c2 30 (by decide), o3], by rw [c2 30 (by decide), o2 0 (by decide), b5], by rw [c2 30 (by decide), o2 3 (by decide), b6], by rw [c2 30 (by decide), o2 4 (by decide), b7]⟩
  simp only [List.mem_cons, List.not_mem_nil, or_false, not_or] at hb
  rw [c2 b (by simp only [List.mem_cons, List.not_mem_nil, or_false, not_or]; omega), o b (by omega), b1 b (by simp only [List.mem_cons, List.not_mem_nil, or_false, not_or]; omega)]
theorem bgR_step {d : qD} (hd : qOK d) (hs : qsnd d) {M0 M : pm_M} (hR : qR M0 d) {k : Nat} (hk : k < qP d 0 + qP d 1) (h : bgR d M0 k M) : ∃ M', sR_comes (nI k) (nI (bhm d k)) M = some M' ∧ bgR d M0 (k + 1) M' := by
  obtain ⟨b1, b2, b3, b4, b5, b6⟩ := h
  obtain ⟨k1, k2, k3, k4, k5⟩ := xbg_k hd hs hk
  obtain ⟨M', e, c1, c2, c3⟩ := R_comes hd (qR_of hR (b6 1 (by decide) (by decide)) (fun b hb hb2 => b1 b (by simp only [List.mem_cons, List.not_mem_nil, or_false, not_or]; omega))) b3 k1 k2 k3 k4 k5
  refine ⟨M', e, fun b hb => ?_, by rw [c3]; exact b2, c1, by rw [c2 49 (by decide), b4], by rw [c2 49 (by decide), b5], fun j hj hj2 => by rw [c2 49 (by decide), b6 j hj hj2]⟩
  simp only [List.mem_cons, List.not_mem_nil, or_false, not_or] at hb
  rw [c2 b (by simp only [List.mem_cons, List.not_mem_nil, or_false, not_or]; omega), b1 b (by simp only [List.mem_cons, List.not_mem_nil, or_false, not_or]; omega)]
theorem xbg0_C {d : qD} {M : pm_M} (h1 : ∀ s, s < 5 → M.1 32 s = 0) (h2 : ∀ k, k < 10 → M.1 35 k = 0) (h3 : M.1 30 2 = nI (qP d 0)) : xC0 (qP d 0) M (xbg d 0) := by
  refine ⟨h1, fun s i hs hi => absurd hi (Nat.not_lt_zero i), fun s x hs hx => ?_, h2, h3⟩
  have hx' : x ∈ ([] : List Nat) := hx
  cases hx'
theorem xbg0_R {d : qD} {M : pm_M} (h1 : ∀ s, s < 5 → M.1 66 s = 0) (h2 : ∀ k, k < 10 → M.1 69 k = 0) : xM0 M (xbg d 0) := by
  refine ⟨h1, fun s i hs hi => absurd hi (Nat.not_lt_zero i), fun s x hs hx => ?_, h2⟩
  have hx' : x ∈ ([] : List Nat) := hx
  cases hx'
